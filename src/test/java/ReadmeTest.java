import java.io.IOException;
import java.lang.reflect.Method;
import java.lang.reflect.Modifier;
import java.nio.file.Files;
import java.nio.file.Path;
import java.util.regex.Matcher;
import java.util.regex.Pattern;

/** README.md: the calls of its example answer what stands behind them, and its table names all methods. */
public final class ReadmeTest {
    private static final Path README = Path.of("README.md");
    private static final Pattern CALL = Pattern.compile("(?m)^ring\\.(\\w+)\\(([^)]*)\\); +// (-?\\d+)(:|$)");

    private ReadmeTest() {
    }

    public static void main(String[] args) throws IOException, ReflectiveOperationException {
        String readme = Files.readString(README);
        exampleHolds(readme);
        allMethodsAreNamed(readme);
        Check.end("ReadmeTest");
    }

    private static void exampleHolds(String readme) throws ReflectiveOperationException {
        BooleanRing ring = new BooleanRing();
        Matcher call = CALL.matcher(readme);
        int calls = 0;
        while (call.find()) {
            calls++;
            Check.due(call.group(), answerOf(ring, call.group(1), call.group(2)), Integer.parseInt(call.group(3)));
        }
        Check.due("lines with a call", calls, readme.split("(?m)^ring\\.", -1).length - 1);
        if (calls == 0) {
            Check.tell("README.md has no example");
        }
    }

    private static int answerOf(BooleanRing ring, String name, String list) throws ReflectiveOperationException {
        String[] words = list.isEmpty() ? new String[0] : list.split(", ");
        Class<?>[] types = new Class<?>[words.length];
        Object[] numbers = new Object[words.length];
        for (int i = 0; i < words.length; i++) {
            types[i] = int.class;
            numbers[i] = numberOf(words[i]);
        }
        return (Integer) BooleanRing.class.getMethod(name, types).invoke(ring, numbers);
    }

    private static int numberOf(String word) {
        if (word.startsWith("0b")) {
            return Integer.parseInt(word.substring(2), 2);
        }
        return word.startsWith("'") ? word.charAt(1) : Integer.parseInt(word);
    }

    private static void allMethodsAreNamed(String readme) {
        for (Method method : BooleanRing.class.getDeclaredMethods()) {
            boolean named = readme.contains("`" + method.getName() + "`");
            if (Modifier.isPublic(method.getModifiers()) && !named) {
                Check.tell("README.md does not name " + method.getName());
            }
        }
    }
}
