import java.io.IOException;
import java.nio.file.Files;
import java.nio.file.Path;

/** README.md: its example stands here word for word and answers what it says, and so does its program. */
final class ReadmeTest {
    private ReadmeTest() {
    }

    private static void example() {
        // the example
        QuillEngine x = new QuillEngine();
        byte[] text = "fn main(): int { print \"a\" & digits(7); return 3; }".getBytes();
        for (int i = 0; i < text.length; i++) {
            x.feed(text[i], 1);
        }
        if (x.read() == 0) {
            int ends = x.run(100, 12);   // 0: main returned
            int returned = x.told(0);    // 3
            int bytes = x.told(1);       // 2
            int first = x.letter(0);     // 97
            int most = x.told(4);        // 5
            int owner = x.whose(0);      // -1
            // as due
            Checks.same("ends", 0, ends);
            Checks.same("returned", 3, returned);
            Checks.same("bytes", 2, bytes);
            Checks.same("first", 97, first);
            Checks.same("most", 5, most);
            Checks.same("owner", -1, owner);
        }
        Checks.same("place", -1, x.place());
    }

    private static String between(String all, String begin, String end) {
        int from = all.indexOf(begin) + begin.length();
        return all.substring(from, all.indexOf(end, from));
    }

    public static void main(String[] args) throws IOException {
        String page = Files.readString(Path.of("README.md"));
        String here = Files.readString(Path.of("src/test/java/ReadmeTest.java"));
        String due = between(here, "// the example\n", "            // as due").replaceAll("(?m)^ {8}", "");
        Checks.same("the example", due + "}\n", between(page, "```java\n", "```"));
        example();
        QuillEngine x = Checks.right(between(page, "```text\n", "```"));
        Checks.same("run", 0, x.run(100, 12));
        Checks.same("told", "5,4,3,2,1", Checks.toldText(x));
        Checks.same("what main returned", 9, x.told(0));
        Checks.end("ReadmeTest");
    }
}
