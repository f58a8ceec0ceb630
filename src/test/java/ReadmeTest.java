import java.io.IOException;
import java.lang.reflect.Method;
import java.nio.file.Files;
import java.nio.file.Path;
import java.util.regex.Matcher;
import java.util.regex.Pattern;

/** The example in README.md: each of its calls is made, and has to answer what stands there. */
public final class ReadmeTest {
    private static final String BEGINS = "XorOverlay net = new XorOverlay();";
    private static final Pattern CALL =
            Pattern.compile("net\\.(\\w+)\\(([-\\d, ]*)\\); +// (true|false|-?\\d+)(:.*)?");

    private Object net = null;
    private int calls = 0;

    private ReadmeTest() {
    }

    public static void main(String[] args) throws IOException, ReflectiveOperationException {
        ReadmeTest test = new ReadmeTest();
        boolean isExample = false;
        for (String line : Files.readAllLines(Path.of("README.md"))) {
            if (line.startsWith("```")) {
                isExample = line.equals("```java");
            } else if (isExample) {
                test.follow(line);
            }
        }
        Due.is("README.md shows an example", test.calls > 0, true);
        Due.end();
    }

    private void follow(String line) throws ReflectiveOperationException {
        Matcher call = CALL.matcher(line);
        if (line.equals(BEGINS)) {
            net = new XorOverlay();
        } else if (net != null && call.matches()) {
            calls++;
            String got = String.valueOf(answer(call.group(1), call.group(2)));
            if (!got.equals(call.group(3))) {
                Due.tell("README.md: " + line + " (it answered " + got + ")");
            }
        } else if (!line.isBlank()) {
            Due.tell("README.md: not a call with its answer: " + line);
        }
    }

    private Object answer(String name, String arguments) throws ReflectiveOperationException {
        String[] words = arguments.isEmpty() ? new String[0] : arguments.split(", ");
        Class<?>[] types = new Class<?>[words.length];
        Object[] values = new Object[words.length];
        for (int i = 0; i < words.length; i++) {
            types[i] = int.class;
            values[i] = Integer.valueOf(words[i]);
        }
        Method method = XorOverlay.class.getMethod(name, types);
        return method.invoke(net, values);
    }
}
