import java.lang.reflect.Constructor;
import java.lang.reflect.Field;
import java.lang.reflect.Method;
import java.lang.reflect.Modifier;
import java.util.Arrays;
import java.util.Set;
import java.util.TreeSet;

/** The public face is the document's, and nothing else of the class is to be seen. */
public final class FaceTest {
    private static final String[] FACE = {
        "int first(int)", "int day(int, int, int)", "int date(int, int)", "int saint(int, int, int, int, int)",
        "int feast(int, int)", "int write(int, int, int, int)", "int set(int, int, int, int, boolean)",
        "int get(int, int, int)", "int kept(int, int)", "int letters(long)", "int blank()", "int say()",
        "int good()", "int asks(int, int)", "int forget()", "int truth(int, int, int, int)",
        "int cases(int, int, int, int, int)", "int month(int, int, int, int)", "int expected(int, int)",
        "int worth(int, int)", "int turned(int, int, int, int)", "int chance(int, int)",
        "int parted(int, int, int)", "int one(int, int)", "int home(int)", "int learn(int, int, int, int)",
        "int entry(int)", "int list(int)", "int age(int, int)", "int draw(int, int, int)",
        "int copy(int, int, int, int)", "int foretell(int, int, int)", "int wrong(int, int)",
        "int shared(int, int, int, int)", "int alike(int, int, int, int)", "int source(int, int, int)",
        "int spring(int, int, int)", "int count(int)", "long digest()"};

    public static void main(String[] args) {
        Check check = new Check("FaceTest");
        check.due("NONE", RedSky.NONE, -1);
        check.due("UNKNOWN", RedSky.UNKNOWN, -101);
        check.due("OUTSIDE", RedSky.OUTSIDE, -102);
        check.due("STATE", RedSky.STATE, -103);
        check.due("FULL", RedSky.FULL, -104);
        Class<?> c = RedSky.class;
        check.holds("public and final", Modifier.isPublic(c.getModifiers()) && Modifier.isFinal(c.getModifiers()));

        Set<String> seen = new TreeSet<>();
        Set<String> names = new TreeSet<>();
        for (Method m : c.getDeclaredMethods()) {
            if (!Modifier.isPrivate(m.getModifiers())) {
                seen.add(told(m));
                names.add(m.getName());
            }
        }
        Set<String> due = new TreeSet<>(Arrays.asList(FACE));
        check.holds("methods " + seen + " are " + due, seen.equals(due));
        for (Class<?> inner : c.getDeclaredClasses()) {
            check.holds(inner + " is static", Modifier.isStatic(inner.getModifiers()));
            for (Method m : inner.getDeclaredMethods()) {
                check.holds("no name of the face in " + inner + ": " + m.getName(), !names.contains(m.getName()));
            }
        }
        for (Method m : c.getDeclaredMethods()) {
            if (Modifier.isPrivate(m.getModifiers())) {
                check.holds("private name: " + m.getName(), !names.contains(m.getName()));
            }
        }
        Set<String> constants = new TreeSet<>();
        for (Field f : c.getDeclaredFields()) {
            if (!Modifier.isPrivate(f.getModifiers())) {
                constants.add(f.getName());
            }
        }
        check.holds("constants " + constants,
            constants.equals(new TreeSet<>(Arrays.asList("NONE", "UNKNOWN", "OUTSIDE", "STATE", "FULL"))));
        Constructor<?>[] made = c.getDeclaredConstructors();
        check.due("constructors", made.length, 1);
        check.holds("RedSky() is public", made[0].getParameterCount() == 0 && Modifier.isPublic(made[0].getModifiers()));
        check.end();
    }

    private static String told(Method m) {
        StringBuilder text = new StringBuilder(m.getReturnType() + " " + m.getName() + "(");
        String between = "";
        for (Class<?> p : m.getParameterTypes()) {
            text.append(between).append(p);
            between = ", ";
        }
        return text + ")";
    }
}
