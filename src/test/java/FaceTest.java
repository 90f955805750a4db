import java.lang.reflect.Constructor;
import java.lang.reflect.Field;
import java.lang.reflect.Method;
import java.lang.reflect.Modifier;
import java.util.Set;
import java.util.TreeSet;

/** The class has the document's face and nothing else that can be seen (LANGUAGE.md, rules 1 and 11). */
public final class FaceTest {
    private static final Set<String> FACE = Set.of(
        "int operation(int,int,int,int,int)", "int run(int)", "int result(int,int)", "int done(int)",
        "int cache(int,int,int)", "int home(int,int)", "int buffer(int,int,int)", "int held(int,int,int)",
        "int count(int)");

    public static void main(String[] args) {
        Class<?> face = MeshLines.class;
        Check.holds("public and final", Modifier.isPublic(face.getModifiers()) && Modifier.isFinal(face.getModifiers()));
        Check.due("BAD", MeshLines.BAD, -1);
        constructorIsAsSaid(face);
        methodsAreAsSaid(face);
        fieldsArePrivate(face);
        classesInsideAreHidden(face);
        Check.end();
    }

    private static void constructorIsAsSaid(Class<?> face) {
        Constructor<?>[] all = face.getDeclaredConstructors();
        Check.due("constructors", all.length, 1);
        Check.holds("public MeshLines(int, int)", all[0].toString().equals("public MeshLines(int,int)"));
    }

    private static void methodsAreAsSaid(Class<?> face) {
        Set<String> seen = new TreeSet<>();
        Set<String> names = new TreeSet<>();
        for (Method m : face.getDeclaredMethods()) {
            if (Modifier.isPublic(m.getModifiers())) {
                seen.add(m.toString().replace("public ", "").replace("MeshLines.", ""));
                Check.holds(m.getName() + " stands once", names.add(m.getName()));
            } else {
                Check.holds(m.getName() + " is private", Modifier.isPrivate(m.getModifiers()));
            }
        }
        Check.holds("the methods of the face: " + seen, seen.equals(FACE));
        for (Class<?> inside : face.getDeclaredClasses()) {
            for (Method m : inside.getDeclaredMethods()) {
                Check.holds(m.getName() + " bears no name of the face", !names.contains(m.getName()));
            }
        }
    }

    private static void fieldsArePrivate(Class<?> face) {
        for (Field f : face.getDeclaredFields()) {
            boolean isBad = f.getName().equals("BAD");
            Check.holds(f.getName(), isBad ? f.toString().equals("public static final int MeshLines.BAD")
                : Modifier.isPrivate(f.getModifiers()));
        }
    }

    private static void classesInsideAreHidden(Class<?> face) {
        Class<?>[] inside = face.getDeclaredClasses();
        Check.holds("twelve classes at most", inside.length + 1 <= 12);
        for (Class<?> c : inside) {
            int m = c.getModifiers();
            Check.holds(c.getName(), Modifier.isStatic(m) && !Modifier.isPublic(m) && !Modifier.isProtected(m));
        }
    }
}
