import java.lang.reflect.Constructor;
import java.lang.reflect.Field;
import java.lang.reflect.Method;
import java.lang.reflect.Modifier;
import java.util.Set;
import java.util.TreeSet;

/** The public face of the document, and rule 1 of LANGUAGE.md: all of it, and nothing else that is not private. */
public final class FaceTest {
    private static final String[] METHODS = {
        "int write(int)", "int wipe()", "int fault()", "int court()", "int clerk(int,int)", "int page(int,int)",
        "int trial(int)", "int speak(int)", "int strike()", "int reform(int)", "int seat(int,int)", "int undo()",
        "int open(int)", "int tell(int,int)", "int untell(int)", "int fits(int)", "int least(int)",
        "int sure(int,int)", "int likely(int,int,int,boolean)", "int toRead(int)", "int habits(int)",
        "int habit(int)", "int copied(int)", "int leaves(int)", "int fewest(int)", "int blind(int)", "int whom(int)",
        "int lost(int,boolean)", "long seed(long)", "int days(int,int)", "int keep(int)", "int again(int)",
        "int count(int)"};
    private static final String[] CONSTANTS = {"UNKNOWN", "OUTSIDE", "STATE", "FULL", "NONE"};
    private static final Due d = new Due("FaceTest");

    public static void main(String[] args) {
        Class<?> face = ShorthandCourt.class;
        d.due("public and final", face.getModifiers(), Modifier.PUBLIC | Modifier.FINAL);
        methods(face);
        fields(face);
        for (Constructor<?> c : face.getDeclaredConstructors()) {
            d.same("a constructor", c.toString(), "public ShorthandCourt()");
        }
        for (Class<?> inside : face.getDeclaredClasses()) {
            int m = inside.getModifiers();
            boolean hidden = !Modifier.isPublic(m) && !Modifier.isProtected(m) && Modifier.isStatic(m);
            d.due(inside + " is hidden and static", hidden ? 1 : 0, 1);
        }
        d.end();
    }

    private static void methods(Class<?> face) {
        Set<String> found = new TreeSet<>();
        Set<String> names = new TreeSet<>();
        for (Method m : face.getDeclaredMethods()) {
            if (m.getModifiers() == Modifier.PUBLIC) {
                String types = m.toGenericString().replaceAll(".*\\(", "(");
                found.add(m.getReturnType() + " " + m.getName() + types);
                names.add(m.getName());
            }
        }
        d.same("the public methods", found.toString(), new TreeSet<>(Set.of(METHODS)).toString());
        for (Method m : face.getDeclaredMethods()) {
            int mod = m.getModifiers();
            if (mod != Modifier.PUBLIC) {
                boolean fine = Modifier.isPrivate(mod) && !names.contains(m.getName());
                d.due(m + " is private, with a name of its own", fine ? 1 : 0, 1);
            }
        }
    }

    private static void fields(Class<?> face) {
        Set<String> found = new TreeSet<>();
        for (Field f : face.getDeclaredFields()) {
            int mod = f.getModifiers();
            if (mod == (Modifier.PUBLIC | Modifier.STATIC | Modifier.FINAL) && f.getType() == int.class) {
                found.add(f.getName());
            } else {
                boolean fine = Modifier.isPrivate(mod) && (!Modifier.isStatic(mod) || Modifier.isFinal(mod));
                d.due(f + " is private, and final if static", fine ? 1 : 0, 1);
            }
        }
        d.same("the constants", found.toString(), new TreeSet<>(Set.of(CONSTANTS)).toString());
    }
}
