import java.lang.reflect.Constructor;
import java.lang.reflect.Field;
import java.lang.reflect.Method;
import java.lang.reflect.Modifier;
import java.util.Arrays;
import java.util.NoSuchElementException;
import java.util.Set;
import java.util.TreeSet;

/** The face is the document's, no more and no less; no private method bears a public one's name. */
public final class FaceTest {
    private static final String[] FACE = {
        "int load(int, int, int, int, int)",
        "int fill(int, int)",
        "int sheet(int, int, int, int)",
        "boolean base(int, int, int)",
        "boolean hull(int, int)",
        "int layer(int, int)",
        "int mix()",
        "int slack(int, int)",
        "int of(int, int) throws NoSuchElementException",
        "int heavy(int) throws NoSuchElementException",
        "int moment(int) throws NoSuchElementException",
        "int balanced(int)",
        "int lies(int, int)",
        "int hover(int, int)",
        "int sign(int)",
        "boolean end(int)",
        "int book()",
        "int line(int) throws NoSuchElementException",
        "int morning()",
        "int holds(int)",
        "int liar(int, int, int, int)",
        "int two(int, int, int, int)",
        "int pump(int, int, int, boolean)",
        "int run(int, int)",
        "int best(int, int)",
        "int trim(int, boolean)",
        "int reach(int)",
        "int shot(int, int, int, int, int)",
        "int dive(int, int, int)",
        "int forward(int, int, int, int, int)",
        "boolean carry(int, int, int)",
        "int telling()",
        "int gauge(int, int, int, int)",
        "int tells(int, int, int, int) throws NoSuchElementException",
        "int fits(int)",
        "int look(int, int)",
        "int air(int)",
        "int blow(int, int)",
        "int rise(int, int)",
        "int times(int, int)",
        "boolean eats(int, int, int, int)",
        "int days(int)",
        "int lasts(int)",
        "int shift(int)",
        "int ground(int, int)",
        "int ice(int, int)",
        "boolean keep(int)",
        "boolean again(int)",
        "int seed(int)",
        "int lie()",
        "int count(int)",
        "int row(int) throws NoSuchElementException",
    };

    public static void main(String[] args) {
        Class<?> face = HundredMenAft.class;
        Check.due("public and final", face.getModifiers() & (Modifier.PUBLIC | Modifier.FINAL),
                Modifier.PUBLIC | Modifier.FINAL);
        Set<String> want = new TreeSet<>(Arrays.asList(FACE));
        Set<String> got = new TreeSet<>();
        Set<String> names = new TreeSet<>();
        for (Method m : face.getDeclaredMethods()) {
            if (Modifier.isPublic(m.getModifiers())) {
                got.add(told(m));
                names.add(m.getName());
            } else {
                Check.due(m + " is private", Modifier.isPrivate(m.getModifiers()), true);
            }
        }
        Check.due("52 methods", FACE.length, 52);
        for (String s : want) {
            Check.due("has " + s, got.contains(s), true);
        }
        for (String s : got) {
            Check.due("asks for " + s, want.contains(s), true);
        }
        constructorAndFields(face);
        hidden(face, names);
        for (Class<?> inside : face.getDeclaredClasses()) {
            Check.due(inside + " is static", Modifier.isStatic(inside.getModifiers()), true);
            Check.due(inside + " is hidden", Modifier.isPublic(inside.getModifiers()), false);
            hidden(inside, names);
        }
        Check.finish("FaceTest");
    }

    private static String told(Method m) {
        StringBuilder b = new StringBuilder(m.getReturnType() + " " + m.getName() + "(");
        for (Class<?> p : m.getParameterTypes()) {
            b.append(b.charAt(b.length() - 1) == '(' ? "" : ", ").append(p);
        }
        b.append(')');
        for (Class<?> e : m.getExceptionTypes()) {
            Check.due(m + " tells what it throws", e == NoSuchElementException.class, true);
            b.append(" throws NoSuchElementException");
        }
        return b.toString();
    }

    private static void constructorAndFields(Class<?> face) {
        Constructor<?>[] made = face.getDeclaredConstructors();
        Check.due("one constructor", made.length, 1);
        Check.due("public", Modifier.isPublic(made[0].getModifiers()) && made[0].getParameterCount() == 0, true);
        for (Field f : face.getDeclaredFields()) {
            boolean none = f.getName().equals("NONE");
            Check.due(f + " is hidden", Modifier.isPrivate(f.getModifiers()), !none);
        }
        int fields = 0;
        for (Class<?> inside : face.getDeclaredClasses()) {
            fields = Math.max(fields, inside.getDeclaredFields().length);
        }
        Check.due("at most 20 fields in a class", fields <= 20, true);
        Check.due("at most 12 classes", face.getDeclaredClasses().length + 1 <= 12, true);
    }

    private static void hidden(Class<?> c, Set<String> names) {
        for (Method m : c.getDeclaredMethods()) {
            boolean open = Modifier.isPublic(m.getModifiers()) && c == HundredMenAft.class;
            Check.due(m + " bears a public name", !open && names.contains(m.getName()), false);
            Check.due(m + " has at most seven parameters", m.getParameterCount() <= 7, true);
        }
        for (Field f : c.getDeclaredFields()) {
            boolean constant = !Modifier.isStatic(f.getModifiers()) || Modifier.isFinal(f.getModifiers());
            Check.due(f + " is no static state", constant, true);
        }
    }
}
