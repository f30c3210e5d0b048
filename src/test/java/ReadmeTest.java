import java.io.IOException;
import java.lang.reflect.Method;
import java.lang.reflect.Modifier;
import java.nio.file.Files;
import java.nio.file.Path;
import java.util.List;
import java.util.regex.Matcher;
import java.util.regex.Pattern;

/** What README.md says of the calls: its example, row by row, and its table beside the face of the class. */
public final class ReadmeTest {
    private static final Pattern ROW =
        Pattern.compile("x\\.(\\w+\\(.*\\)); +// (?:(-?\\d+|true|false)|throws (\\w+)Exception)(?:\\W.*)?");
    private static final Pattern ENTRY = Pattern.compile("\\| `(\\w+)\\(([\\w, ]*)\\)` \\|.*\\| ([IAS ]*)\\|");

    public static void main(String[] args) throws IOException {
        List<String> lines = Files.readAllLines(Path.of("README.md"));
        example(lines);
        table(lines);
        Runs.end();
    }

    private static void example(List<String> lines) {
        StringBuilder rows = new StringBuilder();
        int calls = 0;
        for (String line : lines) {
            if (line.startsWith("x.")) {
                Matcher row = ROW.matcher(line);
                Runs.due("README.md", "the row tells a call and its answer: " + line, row.matches() ? 1 : 0, 1);
                if (row.matches()) {
                    String answer = row.group(2) != null ? row.group(2) : row.group(3);
                    rows.append(row.group(1).replace("AuditoriumKeys.", "")).append(" -> ").append(answer).append('\n');
                    calls++;
                }
            }
        }
        Runs.due("README.md", "there is an example", calls > 10 ? 1 : 0, 1);
        Runs.of("README.md", "the example", rows.toString());
    }

    private static void table(List<String> lines) {
        for (Method method : AuditoriumKeys.class.getDeclaredMethods()) {
            if (Modifier.isPublic(method.getModifiers())) {
                int entries = 0;
                for (String line : lines) {
                    entries += isEntryOf(method, line) ? 1 : 0;
                }
                Runs.due("README.md", "the table has one entry for " + method.getName(), entries, 1);
            }
        }
    }

    /** By name, by how many arguments there are, and by what is thrown, in its order. */
    private static boolean isEntryOf(Method method, String line) {
        Matcher entry = ENTRY.matcher(line);
        if (!entry.matches() || !entry.group(1).equals(method.getName())) {
            return false;
        }
        int arguments = entry.group(2).isEmpty() ? 0 : entry.group(2).split(", ").length;
        StringBuilder thrown = new StringBuilder();
        for (Class<?> each : method.getExceptionTypes()) {
            thrown.append(sign(each)).append(' ');
        }
        return arguments == method.getParameterCount() && entry.group(3).equals(thrown.toString());
    }

    private static String sign(Class<?> thrown) {
        return switch (thrown.getSimpleName()) {
            case "IndexOutOfBoundsException" -> "I";
            case "IllegalArgumentException" -> "A";
            case "IllegalStateException" -> "S";
            default -> thrown.getSimpleName();
        };
    }
}
