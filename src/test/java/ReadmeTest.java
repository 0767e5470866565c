import java.io.IOException;
import java.nio.file.Files;
import java.nio.file.Path;
import java.util.Arrays;
import java.util.regex.Matcher;
import java.util.regex.Pattern;

/** The example of README.md, read from there, answers what stands behind its calls. */
public final class ReadmeTest {
    private static final Pattern CALL =
        Pattern.compile("x\\.(\\w+)\\(([^)]*)\\); +// (-?\\d+|[A-Z_]+)(?::.*)?");
    private static final String MADE = "RelooperRun x = new RelooperRun();";

    private static int calls = 0;
    private static int wrong = 0;

    public static void main(String[] args) throws IOException, ReflectiveOperationException {
        RelooperRun x = null;
        boolean inside = false;
        for (String line : Files.readAllLines(Path.of("README.md"))) {
            if (line.startsWith("```")) {
                inside = line.equals("```java");
            } else if (inside && line.equals(MADE)) {
                x = new RelooperRun();
            } else if (inside) {
                tryLine(x, line);
            }
        }
        if (calls == 0) {
            tell("README.md has no example");
        }
        System.out.println(wrong == 0 ? "all " + calls + " calls of the example answer as told"
            : wrong + " lines of the example are not as due");
        if (wrong != 0) {
            System.exit(1);
        }
    }

    private static void tryLine(RelooperRun x, String line) throws ReflectiveOperationException {
        Matcher call = CALL.matcher(line);
        // A line that is not understood would otherwise stand there untested.
        if (x == null || !call.matches()) {
            tell("not a call with its answer: " + line);
            return;
        }
        calls++;
        int got = answer(x, call.group(1), numbers(call.group(2)));
        if (got != told(call.group(3))) {
            tell(line + " | answered " + got);
        }
    }

    private static void tell(String what) {
        wrong++;
        System.out.println(what);
    }

    private static int[] numbers(String list) {
        return Arrays.stream(list.split(", ")).filter(s -> !s.isEmpty()).mapToInt(Integer::parseInt).toArray();
    }

    private static int answer(RelooperRun x, String name, int[] numbers) throws ReflectiveOperationException {
        Class<?>[] types = new Class<?>[numbers.length];
        Arrays.fill(types, int.class);
        Object[] given = Arrays.stream(numbers).boxed().toArray();
        return (int) RelooperRun.class.getMethod(name, types).invoke(x, given);
    }

    private static int told(String answer) throws ReflectiveOperationException {
        return Character.isLetter(answer.charAt(0))
            ? RelooperRun.class.getField(answer).getInt(null)
            : Integer.parseInt(answer);
    }
}
