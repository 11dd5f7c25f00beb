import java.lang.reflect.Constructor;
import java.lang.reflect.Field;
import java.lang.reflect.Method;
import java.lang.reflect.Modifier;
import java.util.Arrays;
import java.util.List;
import java.util.TreeSet;

/** The document's public face, and that nothing else can be seen. */
public final class FaceTest {
    private static final List<String> FACE = List.of(
        "void zone(int,int)", "int change(int,int,int)", "int civil(int,int,int)",
        "int minute(int,int,int,int,int,int)", "int feed(long,int)", "int order(int,int,int,int,int)",
        "int fault()", "int cancel(int)", "int told(int,int)", "long field(int,int)",
        "boolean day(int,int,int,int,int)", "boolean matches(int,int)", "int next(int,int,int)",
        "int before(int,int,int)", "int between(int,int,int)", "void put(int)", "int pass(int)",
        "void sleep()", "int wake()", "int log(int,int)", "int tear()", "int count(int)");

    public static void main(String[] args) {
        Class<?> c = CalendarOrders.class;
        Due.is("final", Modifier.isFinal(c.getModifiers()), true);
        Due.is("NONE", CalendarOrders.NONE, -1);
        TreeSet<String> seen = new TreeSet<>();
        TreeSet<String> names = new TreeSet<>();
        for (Method m : c.getDeclaredMethods()) {
            if (!Modifier.isPrivate(m.getModifiers())) {
                seen.add(m.getReturnType() + " " + m.getName() + params(m.getParameterTypes()));
                names.add(m.getName());
            }
        }
        Due.is("methods", seen, new TreeSet<>(FACE));
        for (Method m : c.getDeclaredMethods()) {
            if (Modifier.isPrivate(m.getModifiers())) {
                Due.is("private " + m.getName(), names.contains(m.getName()), false);
            }
        }
        TreeSet<String> fields = new TreeSet<>();
        for (Field f : c.getDeclaredFields()) {
            if (!Modifier.isPrivate(f.getModifiers())) {
                fields.add(f.getName());
            }
        }
        Due.is("fields", fields.toString(), "[NONE]");
        Constructor<?>[] made = c.getDeclaredConstructors();
        Due.is("constructors", made.length, 1);
        Due.is("constructor is public", Modifier.isPublic(made[0].getModifiers()), true);
        Due.end("FaceTest");
    }

    private static String params(Class<?>[] types) {
        return Arrays.toString(types).replace("[", "(").replace("]", ")").replace(" ", "");
    }
}
