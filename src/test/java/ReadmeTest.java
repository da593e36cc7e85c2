import java.io.IOException;
import java.lang.reflect.Method;
import java.lang.reflect.Modifier;
import java.nio.charset.StandardCharsets;
import java.nio.file.Files;
import java.nio.file.Path;
import java.util.regex.Matcher;
import java.util.regex.Pattern;

/** README.md: what stands behind the calls of its example is what they answer, and it names all calls. */
public final class ReadmeTest {
    private static final Pattern CALL = Pattern.compile("(?m)^deed\\.(\\w+)\\(([^)]*)\\); +// (-?\\d+)");
    private static final Pattern EXAMPLE = Pattern.compile("(?s)```java\n(.*?)```");

    public static void main(String[] args) throws IOException, ReflectiveOperationException {
        String readme = new String(Files.readAllBytes(Path.of("README.md")), StandardCharsets.US_ASCII);
        exampleAnswersSo(readme);
        namesAllCalls(readme);
        Check.end();
    }

    private static void exampleAnswersSo(String readme) throws ReflectiveOperationException {
        Matcher example = EXAMPLE.matcher(readme);
        Check.same("there is an example", 1, example.find() ? 1 : 0);
        BlottedDeed deed = new BlottedDeed();
        Matcher call = CALL.matcher(example.group(1));
        int calls = 0;
        while (call.find()) {
            Check.same(call.group(), Long.parseLong(call.group(3)), answer(deed, call.group(1), call.group(2)));
            calls++;
        }
        Check.same("calls read", example.group(1).split("\ndeed\\.").length - 1, calls);
    }

    private static long answer(BlottedDeed deed, String name, String told) throws ReflectiveOperationException {
        String[] words = told.isEmpty() ? new String[0] : told.split(", ");
        Class<?>[] types = new Class<?>[words.length];
        Object[] numbers = new Object[words.length];
        for (int i = 0; i < words.length; i++) {
            types[i] = int.class;
            numbers[i] = (int) (long) Long.decode(words[i]);
        }
        Object answer = BlottedDeed.class.getMethod(name, types).invoke(deed, numbers);
        return ((Number) answer).longValue();
    }

    private static void namesAllCalls(String readme) {
        for (Method method : BlottedDeed.class.getDeclaredMethods()) {
            if (Modifier.isPublic(method.getModifiers())) {
                String name = method.getName();
                Check.same("README.md names " + name, 1, readme.contains("`" + name + "`") ? 1 : 0);
            }
        }
    }
}
