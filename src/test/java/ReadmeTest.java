import java.io.IOException;
import java.lang.reflect.InvocationTargetException;
import java.lang.reflect.Method;
import java.nio.file.Files;
import java.nio.file.Path;
import java.util.Set;
import java.util.TreeSet;
import java.util.regex.Matcher;
import java.util.regex.Pattern;

/**
 * What README.md tells: each example call answers as it says there, each call of the face is among
 * them, and it names the command that runs all tests, and each test. Run from the project's folder.
 */
public final class ReadmeTest {
    private static final Pattern BLOCK = Pattern.compile("(?s)```java\n(.*?)```");
    private static final Pattern MADE = Pattern.compile("WireGuess x = new WireGuess\\(\\);.*");
    private static final Pattern CALL =
        Pattern.compile("x\\.(\\w+)\\((.*?)\\);\\s+// (-?\\d+)(:.*)?");

    private static WireGuess x = null;
    private static int callsOfOne = 0;
    private static final Set<String> called = new TreeSet<>();

    private ReadmeTest() {
    }

    public static void main(String[] args) throws IOException, ReflectiveOperationException {
        String readme = Files.readString(Path.of("README.md"));
        Matcher blocks = BLOCK.matcher(readme);
        while (blocks.find()) {
            x = null;
            for (String line : blocks.group(1).split("\n")) {
                example(line.trim());
            }
        }
        everyCallIsThere();
        Due.holds("README.md names the command", readme.contains("\n    bash .ci/run\n"));
        everyTestIsNamed(readme);
        Due.close("ReadmeTest");
    }

    /** A line is empty, a remark, a new object, or a call with its answer; nothing else is told. */
    private static void example(String line) throws ReflectiveOperationException {
        Matcher call = CALL.matcher(line);
        if (MADE.matcher(line).matches()) {
            x = new WireGuess();
            callsOfOne = 0;
        } else if (x != null && call.matches()) {
            callsOfOne++;
            Due.holds("an object is good for 512 calls", callsOfOne <= 512);
            String made = call.group(1) + "(" + call.group(2) + ")";
            Due.is("README.md: " + made, answer(call.group(1), call.group(2)),
                Long.parseLong(call.group(3)));
        } else {
            Due.holds("README.md: a call with its answer: " + line,
                line.isEmpty() || line.startsWith("//"));
        }
    }

    private static long answer(String name, String told) throws ReflectiveOperationException {
        for (Method method : WireGuess.class.getMethods()) {
            if (method.getName().equals(name) && method.getDeclaringClass() == WireGuess.class) {
                called.add(name);
                return ((Number) called(method, told)).longValue();
            }
        }
        Due.holds("README.md: there is a call " + name, false);
        return 0;
    }

    private static Object called(Method method, String told)
            throws IllegalAccessException, InvocationTargetException {
        String[] parts = told.isEmpty() ? new String[0] : told.split(", ");
        Class<?>[] types = method.getParameterTypes();
        Object[] values = new Object[types.length];
        for (int k = 0; k < types.length; k++) {
            values[k] = valueOf(types[k], parts[k]);
        }
        return method.invoke(x, values);
    }

    private static Object valueOf(Class<?> type, String told) {
        if (type == boolean.class) {
            return Boolean.valueOf(told);
        }
        if (type == long.class) {
            return Long.valueOf(told.replace("L", ""));
        }
        return told.startsWith("'") ? Integer.valueOf(told.charAt(1)) : Integer.valueOf(told);
    }

    private static void everyCallIsThere() {
        for (Method method : WireGuess.class.getMethods()) {
            if (method.getDeclaringClass() == WireGuess.class) {
                Due.holds("README.md has an example of " + method.getName(),
                    called.contains(method.getName()));
            }
        }
    }

    private static void everyTestIsNamed(String readme) throws IOException {
        try (var files = Files.newDirectoryStream(Path.of("src/test/java"), "*.java")) {
            for (Path file : files) {
                String name = file.getFileName().toString().replace(".java", "");
                Due.holds("README.md names " + name, readme.contains("`" + name + "`"));
            }
        }
    }
}
