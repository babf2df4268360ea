import java.io.IOException;
import java.lang.reflect.InvocationTargetException;
import java.lang.reflect.Method;
import java.lang.reflect.Modifier;
import java.nio.file.Files;
import java.nio.file.Path;
import java.util.regex.Matcher;
import java.util.regex.Pattern;

/** The README's example: each call answers the number that stands behind it, and every call of the class is told. */
public final class ReadmeTest {
    private static final Pattern CALL = Pattern.compile("x\\.(\\w+)\\(([-\\d, ]*)\\); +// (-?\\d+)\\b.*");

    private static Method methodNamed(String name) {
        for (Method method : UnixPersonality.class.getMethods()) {
            if (method.getName().equals(name)) {
                return method;
            }
        }
        throw new IllegalStateException("no method " + name);
    }

    private static long answer(UnixPersonality x, String name, String arguments)
            throws IllegalAccessException, InvocationTargetException {
        String[] numbers = arguments.isEmpty() ? new String[0] : arguments.split(", ");
        Object[] given = new Object[numbers.length];
        for (int i = 0; i < numbers.length; i++) {
            given[i] = Integer.valueOf(numbers[i]);
        }
        return ((Number) methodNamed(name).invoke(x, given)).longValue();
    }

    private static void example(String block) throws IllegalAccessException, InvocationTargetException {
        String[] lines = block.split("\n");
        Check.due(lines[0], lines[0].equals("UnixPersonality x = new UnixPersonality();"), true);
        UnixPersonality x = new UnixPersonality();
        for (int i = 1; i < lines.length; i++) {
            Matcher call = CALL.matcher(lines[i]);
            boolean isCall = call.matches();
            Check.due("a call with its answer: " + lines[i], isCall, true);
            if (isCall) {
                Check.due(lines[i], answer(x, call.group(1), call.group(2)), Long.parseLong(call.group(3)));
            }
        }
    }

    private static void everyCallIsTold(String readme) {
        for (Method method : UnixPersonality.class.getDeclaredMethods()) {
            if (Modifier.isPublic(method.getModifiers())) {
                Check.due("`" + method.getName() + "(..)` is told", readme.contains("`" + method.getName() + "("), true);
            }
        }
    }

    public static void main(String[] args) throws IOException, IllegalAccessException, InvocationTargetException {
        String readme = Files.readString(Path.of("README.md"));
        int from = readme.indexOf("```java\n") + "```java\n".length();
        example(readme.substring(from, readme.indexOf("\n```", from)));
        everyCallIsTold(readme);
        Check.due("how to run the tests is told", readme.contains("\n    .ci/run\n"), true);
        Check.finish();
    }
}
