import java.io.IOException;
import java.nio.file.Files;
import java.nio.file.Path;
import java.util.ArrayList;
import java.util.List;
import java.util.regex.Matcher;
import java.util.regex.Pattern;

/** What of LANGUAGE.md can be seen in the source: .ci/run runs this in the project's directory. */
final class LanguageTest {
    private static final String[] RULED_OUT = {"import", "package", "catch", "finally", "synchronized", "assert",
        "->", "::", "System\\.(?!arraycopy)", "Math\\.\\w*Exact", "Object", "hashCode", "toString", "Thread",
        "Random", "double", "float", "protected", "extends", "instanceof", "while *\\(", "static \\{", "\\bvar\\b"};

    private LanguageTest() {
    }

    private static String withoutComments(String source) {
        return source.replaceAll("(?s)/\\*.*?\\*/", "").replaceAll("//[^\n]*", "");
    }

    /** The lines of each method's body are counted from its first brace to the one that closes it. */
    private static void methods(String source) {
        Pattern head = Pattern.compile("\n {4,8}(?:[a-z]+ )*[a-zA-Z\\[\\]]+ [a-zA-Z]+\\(([^)]*)\\)[^;{]*\\{\n");
        Matcher m = head.matcher(source);
        int count = 0;
        while (m.find()) {
            count++;
            String parameters = m.group(1);
            int many = parameters.isBlank() ? 0 : parameters.split(",").length;
            Checks.holds(m.group().trim() + " has at most seven parameters", many <= 7);
            int depth = 1;
            int lines = 1;
            for (int i = m.end(); i < source.length() && depth > 0; i++) {
                char c = source.charAt(i);
                boolean quoted = source.charAt(i - 1) == '\'' && source.charAt(i + 1) == '\'';
                depth += c == '{' && !quoted ? 1 : c == '}' && !quoted ? -1 : 0;
                lines += c == '\n' ? 1 : 0;
            }
            Checks.holds(m.group().trim() + " is short, but has " + lines, lines <= 60);
        }
        Checks.holds("methods are found: " + count, count > 100);
    }

    private static void classes(String source) {
        Matcher m = Pattern.compile("\\bclass (\\w+) \\{").matcher(source);
        List<Integer> begins = new ArrayList<>();
        while (m.find()) {
            begins.add(m.start());
        }
        Checks.holds("classes: " + begins.size(), begins.size() <= 12);
        begins.add(source.length());
        for (int i = 0; i + 1 < begins.size(); i++) {
            String part = source.substring(begins.get(i), begins.get(i + 1));
            Matcher f = Pattern.compile("\n +private (?!static)[^=(\n]*;").matcher(part);
            int fields = 0;
            while (f.find()) {
                fields++;
            }
            Checks.holds("fields of class " + i + ": " + fields, fields <= 20);
        }
    }

    public static void main(String[] args) throws IOException {
        String source = withoutComments(Files.readString(Path.of("src/main/java/QuillEngine.java")));
        for (String ruledOut : RULED_OUT) {
            Matcher m = Pattern.compile(ruledOut).matcher(source);
            Checks.holds("the source does without " + ruledOut, !m.find());
        }
        for (int i = 0; i < source.length(); i++) {
            char c = source.charAt(i);
            if (c != '\n' && (c < 32 || c > 126)) {
                Checks.holds("only plain signs, but " + (int) c, false);
            }
        }
        methods(source);
        classes(source);
        Checks.end("LanguageTest");
    }
}
