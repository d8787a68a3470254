import java.io.IOException;
import java.nio.file.Files;
import java.nio.file.Path;

/**
 * The sentences of the document, each with the tests of its own: of tells which one the next answers are
 * looked at for, end whether there is one that has no test.
 */
final class Sentences {
    private static String document = "";
    private static boolean known = false;
    private static boolean[] quoted = new boolean[0];
    private static String current = "";
    private static int before = 0;

    private Sentences() {
    }

    /** What binds of ../shared/DOC.md, in one line, without headings and heads of methods (FaceTest has those). */
    static void begin() throws IOException {
        Path path = Path.of("../shared/DOC.md");
        known = Files.isReadable(path);
        if (!known) {
            System.out.println("without ../shared/DOC.md the quotes are not compared with it");
            return;
        }
        String all = Files.readString(path);
        int face = all.indexOf("## The public face");
        int terms = all.indexOf("## Terms");
        int end = all.indexOf("## Not promised");
        String binding = (all.substring(0, face) + all.substring(terms, end))
            .replaceAll("(?m)^#.*$", "").replaceAll("(?m)^```.*$", "").replaceAll("(?m)^`[^`]*`:", "");
        document = inOneLine(binding);
        quoted = new boolean[document.length()];
    }

    private static String inOneLine(String text) {
        return text.replaceAll("\\s+", " ").trim();
    }

    static void of(String quote) {
        close();
        current = quote;
        before = Checks.looked();
        Checks.lookFor(quote);
        if (known) {
            mark(quote);
        }
    }

    private static void mark(String quote) {
        int at = document.indexOf(inOneLine(quote));
        while (at >= 0 && quoted[at]) {
            at = document.indexOf(inOneLine(quote), at + 1);
        }
        if (at < 0) {
            Checks.holds("the document says it (once more)", false);
            return;
        }
        for (int i = at; i < at + inOneLine(quote).length(); i++) {
            quoted[i] = true;
        }
    }

    private static void close() {
        if (!current.isEmpty() && Checks.looked() == before) {
            Checks.holds("it has a test of its own", false);
        }
    }

    static void end() {
        close();
        Checks.lookFor("");
        StringBuilder left = new StringBuilder();
        for (int i = 0; i < quoted.length; i++) {
            left.append(quoted[i] ? '\n' : document.charAt(i));
        }
        for (String part : left.toString().split("\n+")) {
            if (part.matches(".*[a-z].*")) {
                Checks.holds("there is a test for: " + part, false);
            }
        }
    }
}
