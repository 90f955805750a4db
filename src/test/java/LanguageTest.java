import java.io.IOException;
import java.lang.reflect.Constructor;
import java.lang.reflect.Field;
import java.lang.reflect.Method;
import java.lang.reflect.Modifier;
import java.nio.file.Files;
import java.nio.file.Path;
import java.util.ArrayList;
import java.util.List;
import java.util.Set;
import java.util.regex.Matcher;
import java.util.regex.Pattern;

/** The rules of LANGUAGE.md that can be read off the file and its classes; rule 1 is in FaceTest. */
public final class LanguageTest {
    private static final Path FILE = Path.of("src/main/java/MeshLines.java");
    private static final int MOST_LINES = 60;
    private static final int MOST_PARAMETERS = 7;
    private static final int MOST_FIELDS = 20;

    // The document lets no call throw, so that no word about exceptions is needed at all.
    private static final List<String> NOT_USED = List.of("throw", "throws", "try", "catch", "finally",
        "synchronized", "assert", "hashCode", "equals", "toString", "System", "Thread", "Random");

    private static final Set<Class<?>> CONSTANTS = Set.of(int.class, long.class, boolean.class, char.class,
        String.class);

    public static void main(String[] args) throws IOException {
        String code = withoutComments(Files.readString(FILE));
        oneFileWithoutPackageAndOnlyArrayList(code);
        noLambdaAndNoMethodReference(code);
        wordsThatAreNotUsed(code);
        methodsAreShort(code);
        for (Class<?> c : allClasses()) {
            staticFieldsAreConstants(c);
            fieldsAreFew(c);
            parametersAreFew(c);
        }
        Check.end();
    }

    private static String withoutComments(String text) {
        return text.replaceAll("(?s)/\\*.*?\\*/", "").replaceAll("//[^\n]*", "");
    }

    private static List<Class<?>> allClasses() {
        List<Class<?>> all = new ArrayList<>(List.of(MeshLines.class.getDeclaredClasses()));
        all.add(MeshLines.class);
        return all;
    }

    private static void oneFileWithoutPackageAndOnlyArrayList(String code) {
        Check.holds("no package line", !Pattern.compile("^\\s*package\\b", Pattern.MULTILINE).matcher(code).find());
        Matcher imports = Pattern.compile("\\bimport\\s+([^;]+);").matcher(code);
        while (imports.find()) {
            Check.holds("import of " + imports.group(1), imports.group(1).equals("java.util.ArrayList"));
        }
    }

    private static void noLambdaAndNoMethodReference(String code) {
        Check.holds("no lambda", !code.contains("->"));
        Check.holds("no method reference", !code.contains("::"));
    }

    private static void wordsThatAreNotUsed(String code) {
        for (String word : NOT_USED) {
            Check.holds("no " + word, !Pattern.compile("\\b" + word + "\\b").matcher(code).find());
        }
    }

    private static void methodsAreShort(String code) {
        Matcher bodies = Pattern.compile("(?ms)^( {4}| {8})[^ \n}][^\n;]*\\([^\n;]*\\) \\{\n.*?^\\1\\}").matcher(code);
        int seen = 0;
        while (bodies.find()) {
            seen++;
            String body = bodies.group();
            String first = body.substring(0, body.indexOf('\n')).trim();
            Check.holds("sixty lines at most: " + first, body.lines().count() <= MOST_LINES);
        }
        int declared = 0;
        for (Class<?> c : allClasses()) {
            declared += c.getDeclaredMethods().length + c.getDeclaredConstructors().length;
        }
        Check.due("methods and constructors that were looked at", seen, declared);
    }

    private static void staticFieldsAreConstants(Class<?> c) {
        for (Field f : c.getDeclaredFields()) {
            if (Modifier.isStatic(f.getModifiers())) {
                Check.holds(f + " is a constant",
                    Modifier.isFinal(f.getModifiers()) && CONSTANTS.contains(f.getType()));
            }
        }
    }

    private static void fieldsAreFew(Class<?> c) {
        int fields = 0;
        for (Field f : c.getDeclaredFields()) {
            fields += Modifier.isStatic(f.getModifiers()) ? 0 : 1;
        }
        Check.holds("twenty fields at most in " + c.getName(), fields <= MOST_FIELDS);
    }

    private static void parametersAreFew(Class<?> c) {
        for (Method m : c.getDeclaredMethods()) {
            Check.holds("seven parameters at most: " + m, m.getParameterCount() <= MOST_PARAMETERS);
        }
        for (Constructor<?> m : c.getDeclaredConstructors()) {
            Check.holds("seven parameters at most: " + m, m.getParameterCount() <= MOST_PARAMETERS);
        }
    }
}
