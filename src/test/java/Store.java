import java.lang.reflect.Field;

/** The private tables of an image, for what no call shows. */
final class Store {
    /** Where the active image's L1 table begins, behind those of the four slots. */
    static final int ACTIVE_L1 = 16;

    private Store() {
    }

    /** The L1 tables, four entries apart. */
    static int[] l1(QcowImage x) throws ReflectiveOperationException {
        return ints(x, "l1Entries");
    }

    static int[] words(QcowImage x) throws ReflectiveOperationException {
        return ints(x, "hostWords");
    }

    static int[] counts(QcowImage x) throws ReflectiveOperationException {
        return ints(x, "storedCounts");
    }

    static int tableOf(QcowImage x, int l1Index) throws ReflectiveOperationException {
        return l1(x)[ACTIVE_L1 + l1Index] - 1;
    }

    private static int[] ints(QcowImage x, String name) throws ReflectiveOperationException {
        Field field = QcowImage.class.getDeclaredField(name);
        field.setAccessible(true);
        return (int[]) field.get(x);
    }
}
