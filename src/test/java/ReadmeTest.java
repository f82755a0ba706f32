import java.io.IOException;
import java.lang.reflect.Method;
import java.lang.reflect.Modifier;
import java.nio.file.Files;
import java.nio.file.Path;
import java.util.List;
import java.util.Map;
import java.util.regex.Matcher;
import java.util.regex.Pattern;
import java.util.stream.Stream;

/**
 * README.md tells no wrong answer, and leaves out no call and no test. To be run where it lies.
 * A line of its examples is a call, and behind it in a comment the answer that is due.
 */
public final class ReadmeTest {
    private static final Path README = Path.of("README.md");
    private static final Path TESTS = Path.of("src", "test", "java");
    private static final Pattern EXAMPLE = Pattern.compile("pool\\.(\\w+)\\((.*)\\); +// (-?\\d+|[A-Z]+)\\b.*");
    private static final Map<String, Integer> NAMED =
        Map.of("BAD", ThinPool.BAD, "OFF", ThinPool.OFF, "FULL", ThinPool.FULL);
    private static final Due DUE = new Due();

    public static void main(String[] args) throws IOException, ReflectiveOperationException {
        List<String> lines = Files.readAllLines(README);
        dueExamples(lines);
        dueAllCalls(lines);
        dueAllTests(lines);
        DUE.end();
    }

    private static void dueExamples(List<String> lines) throws ReflectiveOperationException {
        ThinPool pool = new ThinPool();
        int examples = 0;
        for (String line : lines) {
            Matcher example = EXAMPLE.matcher(line);
            if (example.matches()) {
                DUE.same(line, answer(pool, example.group(1), example.group(2)), dueAnswer(example.group(3)));
                examples++;
            } else {
                DUE.isTrue("a line that can't be read: " + line, !line.startsWith("pool."));
            }
        }
        DUE.isTrue("README.md has examples", examples > 0);
    }

    private static int dueAnswer(String told) {
        Integer named = NAMED.get(told);
        return named != null ? named : Integer.parseInt(told);
    }

    private static int answer(ThinPool pool, String name, String numbers) throws ReflectiveOperationException {
        Method call = callNamed(name);
        String[] texts = numbers.isEmpty() ? new String[0] : numbers.split(", ");
        Object[] arguments = new Object[texts.length];
        for (int i = 0; i < texts.length; i++) {
            boolean isLong = call.getParameterTypes()[i] == long.class;
            arguments[i] = isLong ? (Object) Long.decode(texts[i]) : (Object) Integer.decode(texts[i]);
        }
        return (Integer) call.invoke(pool, arguments);
    }

    private static Method callNamed(String name) {
        for (Method method : ThinPool.class.getDeclaredMethods()) {
            if (method.getName().equals(name) && Modifier.isPublic(method.getModifiers())) {
                return method;
            }
        }
        throw new IllegalStateException("README.md has an example of a call that is not there: " + name);
    }

    /** The table's row of a call has as many numbers as the call itself. */
    private static void dueAllCalls(List<String> lines) {
        for (Method method : ThinPool.class.getDeclaredMethods()) {
            if (Modifier.isPublic(method.getModifiers())) {
                int more = Math.max(0, method.getParameterCount() - 1);
                String numbers = method.getParameterCount() == 0 ? "" : "\\w+(, \\w+){" + more + "}";
                String row = "\\| `" + method.getName() + "\\(" + numbers + "\\)` \\|.*";
                DUE.same("rows for " + method.getName(), rows(lines, row), 1);
            }
        }
    }

    private static void dueAllTests(List<String> lines) throws IOException {
        try (Stream<Path> files = Files.list(TESTS)) {
            for (Path file : files.toList()) {
                String name = file.getFileName().toString().replace(".java", "");
                if (name.endsWith("Test")) {
                    DUE.same("rows for " + name, rows(lines, "\\| `" + name + "` \\|.*"), 1);
                }
            }
        }
    }

    private static long rows(List<String> lines, String row) {
        return lines.stream().filter(line -> line.matches(row)).count();
    }
}
