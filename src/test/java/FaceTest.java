import java.lang.reflect.Constructor;
import java.lang.reflect.Field;
import java.lang.reflect.Method;
import java.lang.reflect.Modifier;
import java.util.Arrays;
import java.util.List;
import java.util.TreeSet;

/** The document's public face, and that nothing else can be seen. */
public final class FaceTest {
    private static final String I = " IndexOutOfBoundsException";
    private static final String A = " IllegalArgumentException";
    private static final String S = " IllegalStateException";
    private static final List<String> FACE = List.of(
        "void zone(int,int)" + I + A, "int change(int,int,int)" + I + A + S, "int civil(int,int,int)" + I + A,
        "int minute(int,int,int,int,int,int)" + I + A, "int feed(long,int)" + A + S,
        "int order(int,int,int,int,int)" + I + A + S, "int fault()", "int cancel(int)" + I, "int told(int,int)" + I + A,
        "long field(int,int)" + I + A, "boolean day(int,int,int,int,int)" + I + A, "boolean matches(int,int)" + I + A,
        "int next(int,int,int)" + I + A, "int before(int,int,int)" + I + A, "int between(int,int,int)" + I + A,
        "void put(int)" + A + S, "int pass(int)" + A, "void sleep()" + S, "int wake()" + S, "int log(int,int)" + I + A,
        "int tear()", "int count(int)" + A);

    public static void main(String[] args) {
        Class<?> c = CalendarOrders.class;
        Due.is("final", Modifier.isFinal(c.getModifiers()), true);
        Due.is("NONE", CalendarOrders.NONE, -1);
        TreeSet<String> seen = new TreeSet<>();
        TreeSet<String> names = new TreeSet<>();
        for (Method m : c.getDeclaredMethods()) {
            if (!Modifier.isPrivate(m.getModifiers())) {
                seen.add(m.getReturnType() + " " + m.getName() + params(m.getParameterTypes()) + thrown(m));
                names.add(m.getName());
            }
        }
        Due.is("methods", seen, new TreeSet<>(FACE));
        for (Method m : c.getDeclaredMethods()) {
            if (Modifier.isPrivate(m.getModifiers())) {
                Due.is("private " + m.getName(), names.contains(m.getName()), false);
            }
        }
        TreeSet<String> fields = new TreeSet<>();
        for (Field f : c.getDeclaredFields()) {
            if (!Modifier.isPrivate(f.getModifiers())) {
                fields.add(f.getName());
            }
        }
        Due.is("fields", fields.toString(), "[NONE]");
        Constructor<?>[] made = c.getDeclaredConstructors();
        Due.is("constructors", made.length, 1);
        Due.is("constructor is public", Modifier.isPublic(made[0].getModifiers()), true);
        Due.end("FaceTest");
    }

    private static String params(Class<?>[] types) {
        return Arrays.toString(types).replace("[", "(").replace("]", ")").replace(" ", "");
    }

    private static String thrown(Method m) {
        StringBuilder names = new StringBuilder();
        for (Class<?> e : m.getExceptionTypes()) {
            names.append(' ').append(e.getSimpleName());
        }
        return names.toString();
    }
}
