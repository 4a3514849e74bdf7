import java.io.IOException;
import java.lang.reflect.Method;
import java.nio.file.Files;
import java.nio.file.Path;
import java.util.List;
import java.util.regex.Matcher;
import java.util.regex.Pattern;

/** README.md shows calls, and texts, with their answers: each of them is tried as it stands there. */
public final class ReadmeTests {
    private static final Pattern CALL = Pattern.compile("x\\.(\\w+)\\(([-\\d, ]*)\\);\\s+// (-?\\d+)\\b.*");
    private static final Pattern TEXT = Pattern.compile("\\| `([^`]+)` \\| (-?\\d+) \\|");

    private ReadmeTests() {
    }

    public static void main(String[] args) throws IOException, ReflectiveOperationException {
        List<String> lines = Files.readAllLines(Path.of("README.md"));
        Checks.due("calls that README.md shows with an answer", calls(lines) > 10 ? 1 : 0, 1);
        Checks.due("texts that README.md shows with an answer", texts(lines) > 2 ? 1 : 0, 1);
        Checks.end("ReadmeTests");
    }

    private static int calls(List<String> lines) throws ReflectiveOperationException {
        NoWhen x = new NoWhen();
        int shown = 0;
        for (String line : lines) {
            Matcher m = CALL.matcher(line);
            if (m.matches()) {
                Checks.due("README.md: " + line, made(x, m.group(1), m.group(2)), Long.parseLong(m.group(3)));
                shown++;
            }
        }
        return shown;
    }

    private static long made(NoWhen x, String name, String numbers) throws ReflectiveOperationException {
        Object[] with = numbers.isEmpty() ? new Object[0]
            : List.of(numbers.split(", ")).stream().map(Integer::valueOf).toArray();
        for (Method m : NoWhen.class.getMethods()) {
            if (m.getName().equals(name) && m.getParameterCount() == with.length) {
                return ((Number) m.invoke(x, with)).longValue();
            }
        }
        throw new NoSuchMethodException(name);
    }

    private static int texts(List<String> lines) {
        int shown = 0;
        for (String line : lines) {
            Matcher m = TEXT.matcher(line);
            if (m.matches()) {
                Checks.due("README.md: " + line, Checks.readOf(m.group(1)), Long.parseLong(m.group(2)));
                shown++;
            }
        }
        return shown;
    }
}
