import java.lang.reflect.Constructor;
import java.lang.reflect.Field;
import java.lang.reflect.Method;
import java.lang.reflect.Modifier;
import java.util.Arrays;
import java.util.Set;
import java.util.TreeSet;

/** The public face of the document, and what LANGUAGE.md says of the members. */
public final class FaceTest {
    private static final Set<String> METHODS = new TreeSet<>(Arrays.asList(
        "int guestWords()", "boolean write(int,int)", "int read(int)", "boolean discard(int)",
        "boolean writeBacking(int,int)", "int readBacking(int)", "boolean isAllocated(int)",
        "int allocatedCount()", "boolean snapshotCreate(int)", "boolean snapshotDelete(int)",
        "boolean snapshotApply(int)", "boolean snapshotExists(int)", "int readSnapshot(int,int)",
        "boolean isSnapshotAllocated(int,int)", "int commit()", "int check()"));

    private static final Set<String> CONSTANTS = new TreeSet<>(Arrays.asList(
        "CLUSTER_WORDS", "L2_ENTRIES", "SLOTS", "HOST_CLUSTERS"));

    public static void main(String[] args) {
        constants();
        shape();
        methods();
        fields();
        Due.end();
    }

    private static void constants() {
        Due.due("CLUSTER_WORDS", QcowImage.CLUSTER_WORDS, 4);
        Due.due("L2_ENTRIES", QcowImage.L2_ENTRIES, 4);
        Due.due("SLOTS", QcowImage.SLOTS, 4);
        Due.due("HOST_CLUSTERS", QcowImage.HOST_CLUSTERS, 128);
    }

    private static void shape() {
        int modifiers = QcowImage.class.getModifiers();
        Due.due("the class is public", Modifier.isPublic(modifiers), true);
        Due.due("the class is final", Modifier.isFinal(modifiers), true);
        Due.due("nested classes", QcowImage.class.getDeclaredClasses().length, 0);
        Constructor<?>[] constructors = QcowImage.class.getDeclaredConstructors();
        Due.due("constructors", constructors.length, 1);
        Due.due("the constructor is public", Modifier.isPublic(constructors[0].getModifiers()), true);
        Due.due("the constructor takes an int",
            Arrays.equals(constructors[0].getParameterTypes(), new Class<?>[] {int.class}), true);
    }

    private static void methods() {
        Set<String> seen = new TreeSet<>();
        Set<String> publicNames = new TreeSet<>();
        for (Method method : QcowImage.class.getDeclaredMethods()) {
            if (!Modifier.isPrivate(method.getModifiers())) {
                seen.add(signature(method));
                publicNames.add(method.getName());
                Due.due(method.getName() + " is public and of an object",
                    method.getModifiers(), Modifier.PUBLIC);
            }
        }
        Due.due("the public methods are the document's: " + seen, seen.equals(METHODS), true);
        for (Method method : QcowImage.class.getDeclaredMethods()) {
            if (Modifier.isPrivate(method.getModifiers())) {
                Due.due("private " + method.getName() + " bears a public method's name",
                    publicNames.contains(method.getName()), false);
                Due.due(method.getName() + " takes at most seven parameters",
                    method.getParameterCount() <= 7, true);
            }
        }
    }

    private static String signature(Method method) {
        StringBuilder text = new StringBuilder(method.getReturnType() + " " + method.getName() + "(");
        String comma = "";
        for (Class<?> type : method.getParameterTypes()) {
            text.append(comma).append(type);
            comma = ",";
        }
        return text.append(")").toString();
    }

    private static void fields() {
        Set<String> seen = new TreeSet<>();
        int ownFields = 0;
        for (Field field : QcowImage.class.getDeclaredFields()) {
            int modifiers = field.getModifiers();
            if (Modifier.isStatic(modifiers)) {
                Due.due(field.getName() + " is final", Modifier.isFinal(modifiers), true);
                Due.due(field.getName() + " is an int or a long",
                    field.getType() == int.class || field.getType() == long.class, true);
            } else {
                ownFields++;
            }
            if (!Modifier.isPrivate(modifiers)) {
                seen.add(field.getName());
                Due.due(field.getName() + " is a public constant",
                    modifiers, Modifier.PUBLIC | Modifier.STATIC | Modifier.FINAL);
            }
        }
        Due.due("the public constants are the document's: " + seen, seen.equals(CONSTANTS), true);
        Due.due("at most forty fields beside the constants", ownFields <= 40, true);
    }
}
