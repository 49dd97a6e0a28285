import java.io.IOException;
import java.lang.reflect.Method;
import java.nio.file.Files;
import java.nio.file.Path;
import java.util.List;

/** That README.md's example answers what its lines say, and that its table names every call. */
public final class ReadmeTest {
    private static final List<Call> EXAMPLE = List.of(
        Call.writeBacking(5, 50), Call.read(5), Call.write(4, 7), Call.create(0), Call.write(4, 8),
        Call.readSnapshot(0, 4), Call.create(0), Call.apply(0), Call.read(4), Call.commit(),
        Call.readBacking(4), Call.isAllocated(1), Call.write(32, 9), Call.check());

    public static void main(String[] args) throws IOException {
        List<String> lines = Files.readAllLines(Path.of("README.md"));
        example(lines);
        table(lines);
        Due.end();
    }

    private static void example(List<String> lines) {
        List<String> told = lines.stream().filter(line -> line.startsWith("image.")).toList();
        Due.due("lines of the example", told.size(), EXAMPLE.size());
        QcowImage x = new QcowImage(2);
        for (int i = 0; i < Math.min(told.size(), EXAMPLE.size()); i++) {
            Call call = EXAMPLE.get(i);
            String line = told.get(i);
            Due.due("'" + line + "' is " + call.text(), line.startsWith("image." + call.text() + ";"), true);
            Due.due(line, call.on(x), answerTold(line));
        }
    }

    /** The first word behind the slashes; true counts 1 and false 0. */
    private static int answerTold(String line) {
        String answer = line.substring(line.indexOf("// ") + 3).split("[: ]")[0];
        return switch (answer) {
            case "true" -> 1;
            case "false" -> 0;
            default -> Integer.parseInt(answer);
        };
    }

    private static void table(List<String> lines) {
        for (Method method : QcowImage.class.getMethods()) {
            if (method.getDeclaringClass() == QcowImage.class) {
                String row = "| `" + method.getName() + "(";
                Due.due("rows of " + method.getName(),
                    lines.stream().filter(line -> line.startsWith(row)).count(), 1);
            }
        }
    }
}
