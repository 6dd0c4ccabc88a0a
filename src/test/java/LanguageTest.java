import java.io.IOException;
import java.lang.reflect.Array;
import java.lang.reflect.Field;
import java.lang.reflect.Method;
import java.lang.reflect.Modifier;
import java.nio.file.Files;
import java.nio.file.Path;
import java.util.ArrayList;
import java.util.List;
import java.util.Set;
import java.util.regex.Matcher;
import java.util.regex.Pattern;

/** What can be checked simply of the rules of LANGUAGE.md, by their numbers there. */
public final class LanguageTest {
    private static final Path SOURCE = Path.of("src/main/java/BooleanRing.java");
    private static final Set<String> LIBRARY = Set.of(
        "Arrays.fill", "System.arraycopy", "Integer.bitCount", "Long.bitCount", "Math.min", "Math.max");
    private static final Set<Class<?>> ARRAYS_OF_CONSTANTS = Set.of(int[].class, long[].class, char[].class, byte[].class);
    private static final int PARAMETERS = 7;
    private static final int LINES = 60;
    private static final int CLASSES = 12;
    private static final int FIELDS = 20;

    private LanguageTest() {
    }

    public static void main(String[] args) throws IOException {
        String code = Files.readString(SOURCE).replaceAll("(?s)/\\*.*?\\*/", "").replaceAll("//[^\n]*", "");
        nothingForbiddenIsWritten(code);
        onlyTheListedLibraryIsUsed(code);
        methodsAreShort(code);
        objectsAreMadeWithTheObjectAlone(code);
        List<Class<?>> classes = allClasses();
        if (classes.size() > CLASSES) {
            Check.tell("rule 11: " + classes.size() + " classes");
        }
        for (Class<?> each : classes) {
            isStaticAndSmall(each);
            staticFieldsAreConstants(each);
        }
        Check.end("LanguageTest");
    }

    private static List<Class<?>> allClasses() {
        List<Class<?>> classes = new ArrayList<>(List.of(BooleanRing.class));
        for (int i = 0; i < classes.size(); i++) {
            classes.addAll(List.of(classes.get(i).getDeclaredClasses()));
        }
        return classes;
    }

    private static void nothingForbiddenIsWritten(String code) {
        String[] forbidden = {
            "\\bthrows?\\b", "\\btry\\b", "\\bcatch\\b", "\\bsynchronized\\b", "\\bassert\\b", "->", "::",
            "\\bpackage\\b", "\\bRandom\\b", "\\bcurrentTimeMillis\\b", "\\bnanoTime\\b", "Exact\\b", "\\bprotected\\b",
            "\\bstatic \\{", "[^\\x00-\\x7F]", " / ", " % ", "\"", "\\[\\]\\[\\]",
        };
        for (String word : forbidden) {
            if (Pattern.compile(word).matcher(code).find()) {
                Check.tell("LANGUAGE.md: " + word);
            }
        }
    }

    private static void onlyTheListedLibraryIsUsed(String code) {
        Matcher imported = Pattern.compile("import ([^;]+);").matcher(code);
        while (imported.find()) {
            Check.due("rule 4: import", imported.group(1), "java.util.Arrays");
        }
        Set<String> own = Set.of("Poly", "Orders", "History", "Diagrams", "Typed", "StandardText");
        Matcher used = Pattern.compile("\\b([A-Z][a-z]\\w*)\\.(\\w+)").matcher(code);
        while (used.find()) {
            if (!own.contains(used.group(1)) && !LIBRARY.contains(used.group())) {
                Check.tell("rule 4: " + used.group());
            }
        }
    }

    /** A method ends at the brace with the indentation of its head. */
    private static void methodsAreShort(String code) {
        Matcher method = Pattern.compile("(?ms)^( +)[\\w \\[\\]]+\\([^)]*\\) \\{\n(.*?)^\\1\\}").matcher(code);
        int methods = 0;
        while (method.find()) {
            methods++;
            if (method.group(2).lines().count() > LINES) {
                Check.tell("rule 11: " + method.group().lines().findFirst().orElse(""));
            }
        }
        if (methods < 39) {
            Check.tell("only " + methods + " methods were found in the code");
        }
    }

    /** All rows are made with the object, so that no call takes room. */
    private static void objectsAreMadeWithTheObjectAlone(String code) {
        for (String line : code.lines().toList()) {
            if (line.contains("new ") && !line.matches(" +private final [\\w\\[\\]]+ \\w+ = new .*;")) {
                Check.tell("rule 12: " + line);
            }
        }
        int elements = elementsOf(new BooleanRing(), 0);
        if (elements < 1 || elements > 1000) {
            Check.tell("rule 12: an object takes " + elements + " fields and elements");
        }
    }

    private static int elementsOf(Object object, int depth) {
        if (object.getClass().isArray()) {
            return Array.getLength(object);
        }
        int elements = 0;
        for (Field field : object.getClass().getDeclaredFields()) {
            if (!Modifier.isStatic(field.getModifiers())) {
                elements += 1 + (field.getType().isPrimitive() || depth > 3 ? 0 : elementsOf(valueOf(field, object), depth + 1));
            }
        }
        return elements;
    }

    private static Object valueOf(Field field, Object object) {
        try {
            field.setAccessible(true);
            return field.get(object);
        } catch (IllegalAccessException e) {
            throw new IllegalStateException(e);
        }
    }

    private static void isStaticAndSmall(Class<?> each) {
        boolean isInside = each != BooleanRing.class;
        if (isInside && (!Modifier.isStatic(each.getModifiers()) || Modifier.isPublic(each.getModifiers()))) {
            Check.tell("rule 2: " + each);
        }
        for (Method method : each.getDeclaredMethods()) {
            if (method.getParameterCount() > PARAMETERS) {
                Check.tell("rule 11: " + method);
            }
        }
        int fields = 0;
        for (Field field : each.getDeclaredFields()) {
            fields += Modifier.isStatic(field.getModifiers()) ? 0 : 1;
        }
        if (fields > FIELDS) {
            Check.tell("rule 11: " + each + " has " + fields + " fields");
        }
    }

    private static void staticFieldsAreConstants(Class<?> each) {
        for (Field field : each.getDeclaredFields()) {
            Class<?> type = field.getType();
            boolean isConstant = type.isPrimitive() || ARRAYS_OF_CONSTANTS.contains(type);
            if (Modifier.isStatic(field.getModifiers()) && (!Modifier.isFinal(field.getModifiers()) || !isConstant)) {
                Check.tell("rule 5: " + field);
            }
        }
    }
}
