import java.lang.reflect.Method;
import java.lang.reflect.Modifier;
import java.nio.file.Files;
import java.nio.file.Path;
import java.util.Set;
import java.util.TreeSet;
import java.util.regex.Matcher;
import java.util.regex.Pattern;

/** The calls in README.md answer what stands beside them, and all calls of the face are among them. */
public final class ReadmeTest {
    private static final String MADE = "BirchLeaf x = new BirchLeaf();";
    private static final Pattern CALL = Pattern.compile("x\\.(\\w+)\\(([^)]*)\\); +// (-?\\d+)\\b.*");

    private final Set<String> called = new TreeSet<>();
    private BirchLeaf x;

    private ReadmeTest() {
    }

    public static void main(String[] args) throws Exception {
        ReadmeTest one = new ReadmeTest();
        boolean code = false;
        for (String line : Files.readAllLines(Path.of("README.md"))) {
            if (line.startsWith("```")) {
                code = line.equals("```java");
            } else if (code) {
                one.line(line);
            }
        }
        one.allCalled();
        Checks.end("ReadmeTest");
    }

    private void line(String line) throws Exception {
        Matcher call = CALL.matcher(line);
        if (line.equals(MADE)) {
            x = new BirchLeaf();
        } else if (call.matches()) {
            called.add(call.group(1));
            Checks.due(0, line, answer(call.group(1), call.group(2)), Long.parseLong(call.group(3)));
        } else {
            Checks.that("a call with its answer: " + line, false);
        }
    }

    private long answer(String name, String arguments) throws Exception {
        String[] texts = arguments.isEmpty() ? new String[0] : arguments.split(", ");
        for (Method method : BirchLeaf.class.getMethods()) {
            if (method.getName().equals(name) && method.getParameterCount() == texts.length) {
                Class<?>[] types = method.getParameterTypes();
                Object[] values = new Object[texts.length];
                for (int i = 0; i < texts.length; i++) {
                    long value = Long.decode(texts[i].replace("L", ""));
                    // Not by ?: as that would make both a Long.
                    if (types[i] == int.class) {
                        values[i] = (int) value;
                    } else {
                        values[i] = value;
                    }
                }
                return ((Integer) method.invoke(x, values)).longValue();
            }
        }
        throw new IllegalStateException("no such call: " + name + "(" + arguments + ")");
    }

    private void allCalled() {
        for (Method method : BirchLeaf.class.getDeclaredMethods()) {
            boolean face = Modifier.isPublic(method.getModifiers());
            Checks.that("README.md shows " + method.getName(), !face || called.contains(method.getName()));
        }
    }
}
