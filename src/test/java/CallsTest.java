import java.util.Random;

/** Any calls with any arguments in any state: only what the document names is thrown, and only where it says. */
final class CallsTest {
    private static final int[] EDGES = {Integer.MIN_VALUE, -1, 0, 1, 2, 7, 8, 9, 11, 12, 13, 100, 1999, 2000, 3999,
        4000, 4001, Integer.MAX_VALUE};

    private CallsTest() {
    }

    private static int any(Random random) {
        int which = random.nextInt(4);
        if (which == 0) {
            return random.nextInt();
        }
        return which == 1 ? EDGES[random.nextInt(EDGES.length)] : random.nextInt(40);
    }

    /** The state that the document lets be seen from outside. */
    private static final class Seen {
        final StringBuilder tape = new StringBuilder();
        Model program = null;
        boolean ran = false;
        int heap = 0;
    }

    private static String answer(Checks.Call call) {
        try {
            return String.valueOf(call.answer());
        } catch (RuntimeException e) {
            return "throws " + e.getClass().getName();
        }
    }

    private static String refused(String name) {
        return "throws java.lang." + name;
    }

    private static void feed(QuillEngine x, Seen seen, long eight, int n) {
        String due = refused("IllegalArgumentException");
        if (n >= 1 && n <= 8 && seen.tape.length() + n <= 3200) {
            for (int i = 0; i < n; i++) {
                seen.tape.append((char) (eight >>> 8 * i & 255));
            }
            due = String.valueOf(seen.tape.length());
        }
        Checks.same("feed(" + eight + ", " + n + ")", due, answer(() -> x.feed(eight, n)));
    }

    private static void feedText(QuillEngine x, Seen seen, String text) {
        for (int i = 0; i < text.length(); i++) {
            feed(x, seen, text.charAt(i), 1);
        }
    }

    private static void read(QuillEngine x, Seen seen) {
        seen.program = new Model(seen.tape.toString());
        seen.tape.setLength(0);
        seen.ran = false;
        Checks.same("read", String.valueOf(seen.program.kind), answer(() -> x.read()));
    }

    private static void run(QuillEngine x, Seen seen, int heap, int deep) {
        String due;
        if (seen.program == null || seen.program.kind != 0) {
            due = refused("IllegalStateException");
        } else if (heap < 0 || heap > 4000 || deep < 1 || deep > 12) {
            due = refused("IllegalArgumentException");
        } else {
            due = String.valueOf(seen.program.run(heap, deep));
            seen.ran = true;
            seen.heap = heap;
        }
        Checks.same("run(" + heap + ", " + deep + ")", due, answer(() -> x.run(heap, deep)));
    }

    private static void ask(QuillEngine x, Seen seen, int which, int i) {
        String due = refused("IllegalStateException");
        if (which == 0) {
            if (seen.ran) {
                due = i < 0 || i > 7 ? refused("IllegalArgumentException") : String.valueOf(seen.program.told[i]);
            }
            Checks.same("told(" + i + ")", due, answer(() -> x.told(i)));
        } else if (which == 1) {
            if (seen.ran) {
                String all = seen.program.tells;
                due = String.valueOf(i < 0 || i >= all.length() ? -1 : all.charAt(i));
            }
            Checks.same("letter(" + i + ")", due, answer(() -> x.letter(i)));
        } else if (which == 2) {
            if (seen.ran) {
                due = i < 0 || i >= seen.heap ? refused("IndexOutOfBoundsException")
                    : String.valueOf(seen.program.whose[i]);
            }
            Checks.same("whose(" + i + ")", due, answer(() -> x.whose(i)));
        } else {
            Checks.same("wrong", seen.ran ? "0" : due, answer(() -> x.wrong()));
        }
    }

    private static void oneObject(long seed) {
        Random random = new Random(seed);
        Programs programs = new Programs(seed + 5000000);
        QuillEngine x = new QuillEngine();
        Seen seen = new Seen();
        for (int calls = 0; calls < 120; calls++) {
            int which = random.nextInt(16);
            if (which == 0) {
                String text = programs.next();
                feedText(x, seen, random.nextInt(5) == 0 ? programs.broken() : text);
                read(x, seen);
            } else if (which == 1 && random.nextInt(3) == 0) {
                feed(x, seen, random.nextLong(), any(random));
            } else if (which == 2 && random.nextInt(4) == 0) {
                read(x, seen);
            } else if (which == 3 && random.nextInt(20) == 0) {
                feedText(x, seen, " ".repeat(3201));
            } else if (which < 6) {
                run(x, seen, any(random), random.nextInt(4) == 0 ? any(random) : random.nextInt(13));
            } else if (which < 7) {
                int due = seen.program == null ? -1 : seen.program.place;
                Checks.same("place", String.valueOf(due), answer(() -> x.place()));
            } else {
                ask(x, seen, random.nextInt(4), random.nextInt(2) == 0 ? random.nextInt(9) : any(random));
            }
        }
    }

    /** Bytes by chance make no trouble, whatever they are. */
    private static void noise(long seed) {
        Random random = new Random(seed);
        QuillEngine x = new QuillEngine();
        for (int texts = 0; texts < 20; texts++) {
            StringBuilder text = new StringBuilder(random.nextBoolean() ? "fn main(): int { " : "");
            int most = random.nextInt(8) == 0 ? 3200 : 60;
            int count = random.nextInt(most);
            String some = " \n(){}[],:;=+-*/%&!<\"ab01 fn let if while print return do or and len find int text";
            for (int i = 0; i < count && text.length() < 3200; i++) {
                text.append(random.nextInt(40) == 0 ? (char) random.nextInt(256)
                    : some.charAt(random.nextInt(some.length())));
            }
            Model model = new Model(text.toString());
            Checks.feed(x, text.toString());
            Checks.same("read of " + text, model.kind, x.read());
            Checks.same("place of " + text, model.place, x.place());
        }
    }

    public static void main(String[] args) {
        for (long seed = 1; seed <= 400; seed++) {
            oneObject(seed);
            noise(seed);
        }
        Checks.end("CallsTest");
    }
}
