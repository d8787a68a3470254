import java.lang.reflect.Constructor;
import java.lang.reflect.Field;
import java.lang.reflect.Method;
import java.lang.reflect.Modifier;
import java.util.Set;
import java.util.TreeSet;

/** The public face, and no other member that is not private. */
final class FaceTest {
    private static final Set<String> FACE = Set.of(
        "int feed(long,int) java.lang.IllegalArgumentException",
        "int read()",
        "int place()",
        "int run(int,int) java.lang.IllegalStateException java.lang.IllegalArgumentException",
        "int told(int) java.lang.IllegalStateException java.lang.IllegalArgumentException",
        "int letter(int) java.lang.IllegalStateException",
        "int whose(int) java.lang.IllegalStateException java.lang.IndexOutOfBoundsException",
        "int wrong() java.lang.IllegalStateException");

    private FaceTest() {
    }

    private static String shown(Method m) {
        StringBuilder s = new StringBuilder(m.getReturnType().getName()).append(' ').append(m.getName()).append('(');
        String comma = "";
        for (Class<?> type : m.getParameterTypes()) {
            s.append(comma).append(type.getName());
            comma = ",";
        }
        s.append(')');
        for (Class<?> type : m.getExceptionTypes()) {
            s.append(' ').append(type.getName());
        }
        return s.toString();
    }

    public static void main(String[] args) {
        Class<?> type = QuillEngine.class;
        Checks.same("modifiers", Modifier.PUBLIC | Modifier.FINAL, type.getModifiers());
        Set<String> seen = new TreeSet<>();
        Set<String> names = new TreeSet<>();
        for (Method m : type.getDeclaredMethods()) {
            if (!Modifier.isPrivate(m.getModifiers())) {
                Checks.holds(m + " is public alone", m.getModifiers() == Modifier.PUBLIC);
                seen.add(shown(m));
                names.add(m.getName());
            }
        }
        Checks.same("methods", new TreeSet<>(FACE).toString(), seen.toString());
        for (Method m : type.getDeclaredMethods()) {
            if (Modifier.isPrivate(m.getModifiers())) {
                Checks.holds(m + " bears no name of the face", !names.contains(m.getName()));
            }
        }
        for (Field f : type.getDeclaredFields()) {
            Checks.holds(f + " is private", Modifier.isPrivate(f.getModifiers()));
            Checks.holds(f + " is final if static",
                !Modifier.isStatic(f.getModifiers()) || Modifier.isFinal(f.getModifiers()));
        }
        Constructor<?>[] all = type.getDeclaredConstructors();
        Checks.same("constructors", 1, all.length);
        Checks.same("constructor's parameters", 0, all[0].getParameterCount());
        Checks.holds("constructor is public", Modifier.isPublic(all[0].getModifiers()));
        for (Class<?> inside : type.getDeclaredClasses()) {
            int m = inside.getModifiers();
            Checks.holds(inside + " is static", Modifier.isStatic(m));
            Checks.holds(inside + " is not seen outside", !Modifier.isPublic(m) && !Modifier.isProtected(m));
        }
        Checks.end("FaceTest");
    }
}
