import java.io.IOException;
import java.lang.reflect.Constructor;
import java.lang.reflect.Field;
import java.lang.reflect.Method;
import java.lang.reflect.Modifier;
import java.nio.file.Files;
import java.nio.file.Path;
import java.util.Arrays;
import java.util.Set;
import java.util.TreeSet;
import java.util.regex.Matcher;
import java.util.regex.Pattern;

/** The public face as the document lists it, and those rules of LANGUAGE.md that can be seen from outside. */
public final class FaceTest {
    private static final Path SOURCE = Path.of("src/main/java/BooleanRing.java");
    private static final Path DOCUMENT = Path.of("../shared/DOC.md");

    private FaceTest() {
    }

    public static void main(String[] args) throws IOException {
        methodsAreThoseOfTheDocument();
        everythingElseIsPrivate();
        innerClassesAreStatic();
        nothingForbiddenIsWritten();
        Check.end("FaceTest");
    }

    private static void methodsAreThoseOfTheDocument() throws IOException {
        Set<String> wanted = new TreeSet<>();
        Matcher line = Pattern.compile("    public int (\\w+)\\(([^)]*)\\);").matcher(Files.readString(DOCUMENT));
        while (line.find()) {
            int parameters = line.group(2).isEmpty() ? 0 : line.group(2).split(",").length;
            wanted.add(line.group(1) + "/" + parameters);
        }
        Set<String> found = new TreeSet<>();
        for (Method method : BooleanRing.class.getDeclaredMethods()) {
            if (Modifier.isPublic(method.getModifiers())) {
                found.add(method.getName() + "/" + method.getParameterCount());
                Check.due(method + " answers int", method.getReturnType().getName(), "int");
            }
        }
        Check.due("the number of methods", wanted.size(), 38);
        Check.due("the public methods", found.toString(), wanted.toString());
        Check.due("final", Modifier.isFinal(BooleanRing.class.getModifiers()) ? 1 : 0, 1);
    }

    private static void everythingElseIsPrivate() {
        Set<String> publicNames = new TreeSet<>();
        for (Method method : BooleanRing.class.getMethods()) {
            publicNames.add(method.getName());
        }
        for (Method method : BooleanRing.class.getDeclaredMethods()) {
            boolean isPublic = Modifier.isPublic(method.getModifiers());
            if (!isPublic && (!Modifier.isPrivate(method.getModifiers()) || publicNames.contains(method.getName()))) {
                Check.tell("rule 1: " + method);
            }
        }
        Set<String> constants = new TreeSet<>();
        for (Field field : BooleanRing.class.getDeclaredFields()) {
            if (Modifier.isPublic(field.getModifiers())) {
                constants.add(field.getName());
            } else if (!Modifier.isPrivate(field.getModifiers())) {
                Check.tell("rule 1: " + field);
            }
        }
        Check.due("the constants", constants.toString(), "[INVALID_ARGUMENT, LIMIT_REACHED, NOT_FOUND, NOT_POSSIBLE]");
        Constructor<?>[] constructors = BooleanRing.class.getDeclaredConstructors();
        Check.due("constructors", Arrays.toString(constructors), "[public BooleanRing()]");
    }

    private static void innerClassesAreStatic() {
        for (Class<?> inner : BooleanRing.class.getDeclaredClasses()) {
            if (!Modifier.isStatic(inner.getModifiers()) || Modifier.isPublic(inner.getModifiers())) {
                Check.tell("rule 2: " + inner);
            }
            for (Field field : inner.getDeclaredFields()) {
                if (Modifier.isStatic(field.getModifiers()) && !Modifier.isFinal(field.getModifiers())) {
                    Check.tell("rule 5: " + field);
                }
            }
        }
    }

    private static void nothingForbiddenIsWritten() throws IOException {
        String code = Files.readString(SOURCE).replaceAll("(?s)/\\*.*?\\*/", "").replaceAll("//[^\n]*", "");
        String[] forbidden = {
            "\\bthrows?\\b", "\\btry\\b", "\\bcatch\\b", "\\bsynchronized\\b", "\\bassert\\b", "->", "::",
            "\\bpackage\\b", "\\bRandom\\b", "\\bcurrentTimeMillis\\b", "\\bnanoTime\\b", "Exact\\b", "\\bprotected\\b",
            "\\bstatic \\{", "[^\\x00-\\x7F]", " / ", " % ",
        };
        for (String word : forbidden) {
            if (Pattern.compile(word).matcher(code).find()) {
                Check.tell("LANGUAGE.md: " + word);
            }
        }
        Matcher imported = Pattern.compile("import ([\\w.]+);").matcher(code);
        while (imported.find()) {
            if (!Set.of("java.util.Arrays", "java.util.ArrayList", "java.util.List").contains(imported.group(1))) {
                Check.tell("rule 4: " + imported.group(1));
            }
        }
    }
}
