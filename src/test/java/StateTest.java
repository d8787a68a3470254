/** Promises 1 to 9: a new object, the tape, what read and run change, and every wrong input. */
final class StateTest {
    private static final String MAIN = "fn main(): int { return 5; }";
    private static final Class<IllegalStateException> STATE = IllegalStateException.class;
    private static final Class<IllegalArgumentException> ARGUMENT = IllegalArgumentException.class;
    private static final Class<IndexOutOfBoundsException> INDEX = IndexOutOfBoundsException.class;

    private StateTest() {
    }

    private static void nothingRun(String when, QuillEngine x) {
        for (int what = -2; what < 10; what++) {
            int w = what;
            Checks.fails(when + ": told(" + w + ")", STATE, () -> x.told(w));
            Checks.fails(when + ": letter(" + w + ")", STATE, () -> x.letter(w));
            Checks.fails(when + ": whose(" + w + ")", STATE, () -> x.whose(w));
        }
        Checks.fails(when + ": wrong", STATE, () -> x.wrong());
    }

    private static void noProgram(String when, QuillEngine x) {
        Checks.fails(when + ": run", STATE, () -> x.run(10, 1));
        Checks.fails(when + ": run of wrong heap", STATE, () -> x.run(-1, 1));
        Checks.fails(when + ": run of wrong deep", STATE, () -> x.run(10, 0));
        nothingRun(when, x);
    }

    private static void newObject() {
        QuillEngine x = new QuillEngine();
        Checks.same("place of a new object", -1, x.place());
        noProgram("new", x);
        Checks.same("first feed", 1, x.feed('f', 1));
        Checks.same("place of a new object with a byte", -1, x.place());
        noProgram("new, with a byte", x);
    }

    private static void tape() {
        QuillEngine x = new QuillEngine();
        for (int n : new int[] {0, -1, 9, Integer.MIN_VALUE, Integer.MAX_VALUE}) {
            Checks.fails("feed of n " + n, ARGUMENT, () -> x.feed(1, n));
        }
        int fed = 0;
        for (int i = 0; i < 399; i++) {
            fed += 8;
            Checks.same("feed", fed, x.feed(0x2020202020202020L, 8));
        }
        Checks.same("feed to 3199", 3199, x.feed(-1L, 7));
        Checks.fails("feed to 3201", ARGUMENT, () -> x.feed(32, 2));
        Checks.fails("feed to 3207", ARGUMENT, () -> x.feed(32, 8));
        Checks.same("feed to 3200", 3200, x.feed(32, 1));
        Checks.fails("feed to 3201", ARGUMENT, () -> x.feed(32, 1));
        Checks.same("read of 3200", 1, x.read());
        Checks.same("place of 3200", 3000, x.place());
        Checks.same("feed behind read", 3, x.feed(32, 3));
    }

    private static void order() {
        QuillEngine x = new QuillEngine();
        // the bytes behind the n lowest ones are not taken
        Checks.same("feed", 2, x.feed('f' | 'n' << 8 | '#' << 16, 2));
        Checks.feed(x, " main(): int { print \"hgfedcba\"; }");
        Checks.same("read", 0, x.read());
        Checks.same("run", 0, x.run(0, 1));
        Checks.same("told", "hgfedcba", Checks.toldText(x));
        // a byte above 127 is no word
        Checks.same("feed", 8, x.feed(-1L, 8));
        Checks.same("read", 1, x.read());
        Checks.same("place", 0, x.place());
    }

    private static void readChanges() {
        QuillEngine x = new QuillEngine();
        Checks.same("read of nothing", 1, x.read());
        Checks.same("place of nothing", 0, x.place());
        noProgram("behind read of nothing", x);
        Checks.feed(x, MAIN);
        Checks.same("place stays till read", 0, x.place());
        Checks.same("read", 0, x.read());
        Checks.same("place", -1, x.place());
        nothingRun("read, but not run", x);
        Checks.same("run", 0, x.run(10, 1));
        Checks.same("told(0)", 5, x.told(0));
        Checks.feed(x, "fn main(): int { return 6; }");
        Checks.same("run again with bytes on the tape", 0, x.run(10, 1));
        Checks.same("told(0) is still the old program's", 5, x.told(0));
        Checks.same("read of the next", 0, x.read());
        nothingRun("what was run goes", x);
        Checks.same("run", 0, x.run(10, 1));
        Checks.same("told(0)", 6, x.told(0));
        Checks.same("read of the empty tape", 1, x.read());
        noProgram("behind the empty tape", x);
        Checks.feed(x, MAIN + "}");
        Checks.same("read of a wrong text", 1, x.read());
        Checks.same("place", MAIN.length(), x.place());
        noProgram("behind a wrong text", x);
        Checks.feed(x, MAIN);
        Checks.same("read of a right one again", 0, x.read());
        Checks.same("place", -1, x.place());
        Checks.same("run", 0, x.run(10, 1));
        Checks.same("told(0)", 5, x.told(0));
    }

    private static void runIsWrong(QuillEngine x, int heap, int deep) {
        Checks.fails("run(" + heap + ", " + deep + ")", ARGUMENT, () -> x.run(heap, deep));
    }

    private static void wrongRuns() {
        QuillEngine x = Checks.right("fn main(): int { let t = \"ab\" & \"c\"; print t; return 1 / 0; }");
        int[] heaps = {-1, 4001, Integer.MIN_VALUE, Integer.MAX_VALUE};
        int[] deeps = {0, 13, -1, Integer.MIN_VALUE, Integer.MAX_VALUE};
        for (int heap : heaps) {
            runIsWrong(x, heap, 1);
            for (int deep : deeps) {
                runIsWrong(x, heap, deep);
            }
        }
        for (int deep : deeps) {
            runIsWrong(x, 0, deep);
        }
        nothingRun("a run that throws is none", x);
        Checks.same("run", 1, x.run(4000, 12));
        runIsWrong(x, 4001, 12);
        runIsWrong(x, 4000, 13);
        Checks.same("told(1) stays", 3, x.told(1));
        Checks.same("told(3) stays", 1, x.told(3));
        Checks.same("told(5) stays", 4, x.told(5));
        Checks.same("told(7) stays", 3996, x.told(7));
        Checks.same("whose(3999)", -1, x.whose(3999));
        Checks.same("whose(3)", 0, x.whose(3));
        Checks.same("letter stays", 'a', x.letter(0));
        Checks.same("run in the least", 2, x.run(0, 1));
        Checks.same("run in 3", 2, x.run(3, 1));
        Checks.same("run in 4", 1, x.run(4, 1));
        Checks.same("told(6) with no free place", 0, x.told(6));
        Checks.same("told(7) with no free place", 0, x.told(7));
    }

    private static void wrongQuestions() {
        QuillEngine x = Checks.right("fn main(): int { print \"ab\"; return 1; }");
        Checks.same("run", 0, x.run(7, 1));
        for (int what : new int[] {-1, 8, 9, Integer.MIN_VALUE, Integer.MAX_VALUE}) {
            Checks.fails("told(" + what + ")", ARGUMENT, () -> x.told(what));
        }
        for (int i : new int[] {-1, 2, 2000, Integer.MIN_VALUE, Integer.MAX_VALUE}) {
            Checks.same("letter(" + i + ")", -1, x.letter(i));
        }
        for (int k : new int[] {-1, 7, 4000, Integer.MIN_VALUE, Integer.MAX_VALUE}) {
            Checks.fails("whose(" + k + ")", INDEX, () -> x.whose(k));
        }
        for (int k = 0; k < 7; k++) {
            Checks.same("whose(" + k + ")", -1, x.whose(k));
        }
        Checks.same("run in 0", 0, x.run(0, 1));
        Checks.fails("whose(0) of 0", INDEX, () -> x.whose(0));
        Checks.same("told(0)", 1, x.told(0));
        Checks.same("run in 4000", 0, x.run(4000, 1));
        Checks.same("whose(3999)", -1, x.whose(3999));
        Checks.fails("whose(4000) of 4000", INDEX, () -> x.whose(4000));
    }

    private static void twoObjects() {
        QuillEngine x = Checks.right("fn main(): int { print \"x\"; return 1; }");
        QuillEngine y = Checks.right("fn main(): int { print \"yy\"; return 2; }");
        x.run(5, 1);
        y.run(6, 1);
        Checks.same("x told", "x", Checks.toldText(x));
        Checks.same("y told", "yy", Checks.toldText(y));
        Checks.same("x returned", 1, x.told(0));
        Checks.same("y returned", 2, y.told(0));
        Checks.same("x longest", 5, x.told(7));
    }

    public static void main(String[] args) {
        newObject();
        tape();
        order();
        readChanges();
        wrongRuns();
        wrongQuestions();
        twoObjects();
        Checks.end("StateTest");
    }
}
