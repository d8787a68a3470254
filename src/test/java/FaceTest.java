import java.io.IOException;
import java.lang.reflect.Constructor;
import java.lang.reflect.Field;
import java.lang.reflect.Method;
import java.lang.reflect.Modifier;
import java.nio.file.Files;
import java.nio.file.Path;
import java.util.Set;
import java.util.TreeSet;

/** The public face, and no other member that is not private. */
final class FaceTest {
    private static final Set<String> FACE = Set.of(
        "int feed(long,int) java.lang.IllegalArgumentException",
        "int read()",
        "int place()",
        "int run(int,int) java.lang.IllegalStateException java.lang.IllegalArgumentException",
        "int told(int) java.lang.IllegalStateException java.lang.IllegalArgumentException",
        "int letter(int) java.lang.IllegalStateException",
        "int whose(int) java.lang.IllegalStateException java.lang.IndexOutOfBoundsException",
        "int wrong() java.lang.IllegalStateException");

    private FaceTest() {
    }

    private static String shown(Method m) {
        StringBuilder s = new StringBuilder(m.getReturnType().getName()).append(' ').append(m.getName()).append('(');
        String comma = "";
        for (Class<?> type : m.getParameterTypes()) {
            s.append(comma).append(type.getName());
            comma = ",";
        }
        s.append(')');
        for (Class<?> type : m.getExceptionTypes()) {
            s.append(' ').append(type.getName());
        }
        return s.toString();
    }

    /** The face as the document writes it: its lines, but without the names of the parameters. */
    private static void asTheDocumentWritesIt() throws IOException {
        Path path = Path.of("../shared/DOC.md");
        if (!Files.isReadable(path)) {
            System.out.println("without ../shared/DOC.md the face is not compared with it");
            return;
        }
        String all = Files.readString(path);
        int from = all.indexOf("```java\n") + 8;
        Set<String> due = new TreeSet<>();
        for (String line : all.substring(from, all.indexOf("```", from)).split("\n")) {
            String member = line.trim().replaceAll("(int|long) \\w+([,)])", "$1$2").replaceAll("[;{]$", "").trim();
            if (!member.equals("}")) {
                due.add(member);
            }
        }
        Class<?> type = QuillEngine.class;
        Set<String> got = new TreeSet<>();
        got.add(Modifier.toString(type.getModifiers()) + " class " + type.getName());
        for (Constructor<?> made : type.getConstructors()) {
            got.add(made.toGenericString());
        }
        for (Method m : type.getDeclaredMethods()) {
            if (Modifier.isPublic(m.getModifiers())) {
                got.add(m.toGenericString().replace("QuillEngine.", "").replace("java.lang.", "")
                    .replace(",", ", "));
            }
        }
        Checks.same("the face", due.toString(), got.toString());
    }

    public static void main(String[] args) throws IOException {
        asTheDocumentWritesIt();
        Class<?> type = QuillEngine.class;
        Checks.same("modifiers", Modifier.PUBLIC | Modifier.FINAL, type.getModifiers());
        Set<String> seen = new TreeSet<>();
        Set<String> names = new TreeSet<>();
        for (Method m : type.getDeclaredMethods()) {
            if (!Modifier.isPrivate(m.getModifiers())) {
                Checks.holds(m + " is public alone", m.getModifiers() == Modifier.PUBLIC);
                seen.add(shown(m));
                names.add(m.getName());
            }
        }
        Checks.same("methods", new TreeSet<>(FACE).toString(), seen.toString());
        for (Method m : type.getDeclaredMethods()) {
            if (Modifier.isPrivate(m.getModifiers())) {
                Checks.holds(m + " bears no name of the face", !names.contains(m.getName()));
            }
        }
        for (Field f : type.getDeclaredFields()) {
            Checks.holds(f + " is private", Modifier.isPrivate(f.getModifiers()));
            Checks.holds(f + " is final if static",
                !Modifier.isStatic(f.getModifiers()) || Modifier.isFinal(f.getModifiers()));
        }
        Constructor<?>[] all = type.getDeclaredConstructors();
        Checks.same("constructors", 1, all.length);
        Checks.same("constructor's parameters", 0, all[0].getParameterCount());
        Checks.holds("constructor is public", Modifier.isPublic(all[0].getModifiers()));
        for (Class<?> inside : type.getDeclaredClasses()) {
            int m = inside.getModifiers();
            Checks.holds(inside + " is static", Modifier.isStatic(m));
            Checks.holds(inside + " is not seen outside", !Modifier.isPublic(m) && !Modifier.isProtected(m));
        }
        Checks.end("FaceTest");
    }
}
