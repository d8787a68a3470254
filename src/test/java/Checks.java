import java.nio.charset.StandardCharsets;

/** What all tests share: counting what is not as due, and feeding texts. */
final class Checks {
    private static int failed = 0;
    private static int looked = 0;
    private static String sentence = "";

    private Checks() {
    }

    /** A call of the face. */
    interface Call {
        long answer();
    }

    /** What the next answers are looked at for: told with each that is not as due. */
    static void lookFor(String quote) {
        sentence = quote.isEmpty() ? "" : "[" + quote + "] ";
    }

    static int looked() {
        return looked;
    }

    private static void fail(String what) {
        failed++;
        System.out.println(sentence + what);
    }

    static void same(String what, long due, long got) {
        looked++;
        if (due != got) {
            fail(what + " answered " + got + ", due is " + due);
        }
    }

    static void same(String what, String due, String got) {
        looked++;
        if (!due.equals(got)) {
            fail(what + " answered " + got + ", due is " + due);
        }
    }

    static void holds(String what, boolean it) {
        same(what, 1, it ? 1 : 0);
    }

    static void fails(String what, Class<? extends RuntimeException> due, Call call) {
        looked++;
        String got;
        try {
            got = "answered " + call.answer();
        } catch (RuntimeException e) {
            if (e.getClass() == due) {
                return;
            }
            got = "threw " + e;
        }
        fail(what + " " + got + ", due is " + due.getSimpleName());
    }

    static void feed(QuillEngine x, byte[] text) {
        for (int i = 0; i < text.length; i += 8) {
            int n = Math.min(8, text.length - i);
            long eight = 0;
            for (int k = 0; k < n; k++) {
                eight |= (text[i + k] & 255L) << (8 * k);
            }
            x.feed(eight, n);
        }
    }

    static byte[] bytes(String text) {
        return text.getBytes(StandardCharsets.ISO_8859_1);
    }

    static void feed(QuillEngine x, String text) {
        feed(x, bytes(text));
    }

    static QuillEngine reading(String text) {
        QuillEngine x = new QuillEngine();
        feed(x, text);
        x.read();
        return x;
    }

    /** An object that has read a text which is due to be without fault. */
    static QuillEngine right(String text) {
        QuillEngine x = new QuillEngine();
        feed(x, text);
        int kind = x.read();
        same("read of " + text + " (place " + x.place() + ")", 0, kind);
        same("place of " + text, -1, x.place());
        return x;
    }

    /** The text's fault is to be of that kind, at the place of the mark in it (the mark itself goes). */
    static void fault(int kind, String marked) {
        int at = marked.indexOf('@');
        String text = marked.substring(0, at) + marked.substring(at + 1);
        faultAt(kind, at, text);
    }

    static void faultAt(int kind, int at, String text) {
        QuillEngine x = new QuillEngine();
        feed(x, text);
        String shown = text.length() > 300 ? text.substring(0, 300) + ".." : text;
        same("read of " + shown, kind, x.read());
        same("place of " + shown, at, x.place());
        fails("run of " + shown, IllegalStateException.class, () -> x.run(10, 1));
    }

    static String toldText(QuillEngine x) {
        StringBuilder all = new StringBuilder();
        int count = x.told(1);
        for (int i = 0; i < count; i++) {
            all.append((char) x.letter(i));
        }
        same("letter behind the last", -1, x.letter(count));
        same("letter ahead of the first", -1, x.letter(-1));
        return all.toString();
    }

    /** Ends the test: exit code 1 if an answer was not as due. */
    static void end(String test) {
        System.out.println(test + ": " + looked + " answers, " + failed + " not as due");
        if (failed > 0) {
            System.exit(1);
        }
    }
}
