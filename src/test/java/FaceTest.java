import java.io.IOException;
import java.lang.reflect.Constructor;
import java.lang.reflect.Field;
import java.lang.reflect.Method;
import java.lang.reflect.Modifier;
import java.nio.file.Files;
import java.nio.file.Path;
import java.util.Arrays;
import java.util.Set;
import java.util.TreeSet;
import java.util.regex.Matcher;
import java.util.regex.Pattern;

/** The public face: what the document lists, with these types and values, and nothing more. */
public final class FaceTest {
    private static final Path DOCUMENT = Path.of("../shared/DOC.md");
    private static final int METHODS = 38;
    private static final int CONSTANTS = 4;

    private FaceTest() {
    }

    public static void main(String[] args) throws IOException, IllegalAccessException {
        String document = Files.readString(DOCUMENT);
        methodsAreThoseOfTheDocument(document);
        constantsAreThoseOfTheDocument(document);
        theClassIsFinal();
        everythingElseIsPrivate();
        Check.end("FaceTest");
    }

    private static void methodsAreThoseOfTheDocument(String document) {
        Set<String> wanted = new TreeSet<>();
        Matcher line = Pattern.compile("    (public int \\w+)\\(([^)]*)\\);").matcher(document);
        while (line.find()) {
            String types = line.group(2).replaceAll(" \\w+(,|$)", "$1").replace(" ", "");
            wanted.add(line.group(1) + "(" + types + ")");
        }
        Set<String> found = new TreeSet<>();
        for (Method method : BooleanRing.class.getDeclaredMethods()) {
            if (Modifier.isPublic(method.getModifiers())) {
                found.add(method.toGenericString().replace("BooleanRing.", ""));
            }
        }
        Check.due("the number of methods", wanted.size(), METHODS);
        Check.due("the public methods", found.toString(), wanted.toString());
    }

    private static void constantsAreThoseOfTheDocument(String document) throws IllegalAccessException {
        Set<String> wanted = new TreeSet<>();
        Matcher line = Pattern.compile("    (public static final int \\w+ = -?\\d+);").matcher(document);
        while (line.find()) {
            wanted.add(line.group(1));
        }
        Set<String> found = new TreeSet<>();
        for (Field field : BooleanRing.class.getDeclaredFields()) {
            if (Modifier.isPublic(field.getModifiers())) {
                boolean isStatic = Modifier.isStatic(field.getModifiers());
                Object value = isStatic ? field.get(null) : "of an object";
                found.add(field.toGenericString().replace("BooleanRing.", "") + " = " + value);
            }
        }
        Check.due("the number of constants", wanted.size(), CONSTANTS);
        Check.due("the constants", found.toString(), wanted.toString());
    }

    private static void theClassIsFinal() {
        int modifiers = BooleanRing.class.getModifiers();
        Check.due("the class is", Modifier.toString(modifiers), "public final");
        Constructor<?>[] constructors = BooleanRing.class.getDeclaredConstructors();
        Check.due("constructors", Arrays.toString(constructors), "[public BooleanRing()]");
    }

    private static void everythingElseIsPrivate() {
        Set<String> publicNames = new TreeSet<>();
        for (Method method : BooleanRing.class.getMethods()) {
            publicNames.add(method.getName());
        }
        for (Method method : BooleanRing.class.getDeclaredMethods()) {
            boolean isPublic = Modifier.isPublic(method.getModifiers());
            if (!isPublic && (!Modifier.isPrivate(method.getModifiers()) || publicNames.contains(method.getName()))) {
                Check.tell("rule 1: " + method);
            }
        }
        for (Field field : BooleanRing.class.getDeclaredFields()) {
            if (!Modifier.isPublic(field.getModifiers()) && !Modifier.isPrivate(field.getModifiers())) {
                Check.tell("rule 1: " + field);
            }
        }
    }
}
