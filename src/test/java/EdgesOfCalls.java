/** Promises 1 to 9: each sentence on the calls of the face, at its edges and with wrong inputs. */
final class EdgesOfCalls {
    private static final Class<IllegalStateException> STATE = IllegalStateException.class;
    private static final Class<IllegalArgumentException> ARGUMENT = IllegalArgumentException.class;
    private static final Class<IndexOutOfBoundsException> INDEX = IndexOutOfBoundsException.class;
    private static final int[] FAR = {Integer.MIN_VALUE, Integer.MIN_VALUE + 1, -65536, -256, -1, 65536, 1 << 30,
        Integer.MAX_VALUE - 1, Integer.MAX_VALUE};
    private static final String MAIN = Edges.main("return 5;");

    private EdgesOfCalls() {
    }

    static void all() {
        calls();
        newObject();
        fed();
        fedWrongly();
        read();
        whatWasRun();
        place();
        run();
        runWrongly();
        toldNumbers();
        toldHeap();
        toldPieces();
        toldWrongly();
        letters();
        whose();
        wrong();
    }

    private static void calls() {
        Sentences.of("An object is used for at most 512 calls after it has been made; what later calls answer is free.");
        QuillEngine x = new QuillEngine();
        for (int i = 1; i <= 400; i++) {
            Checks.same("feed", 8 * i, x.feed(0x2020202020202020L, 8));
        }
        Checks.same("read", 1, x.read());
        Checks.feed(x, MAIN);
        Checks.same("read", 0, x.read());
        for (int i = 400 + 2 + (MAIN.length() + 7) / 8; i < 512; i += 2) {
            Checks.same("run", 0, x.run(4000, 12));
            Checks.same("told", 5, x.told(0));
        }
        QuillEngine y = Checks.right(Edges.main("let t = \"a\"; while 1 { t = t & \"b\"; }"));
        for (int i = 10; i < 512; i++) {
            Checks.same("run", 2, y.run(i, 12));
        }
        QuillEngine z = new QuillEngine();
        for (int i = 1; i <= 512; i++) {
            Checks.same("read", 1, z.read());
        }
    }

    private static void nothingRun(QuillEngine x) {
        for (int i : new int[] {-1, 0, 1, 7, 8, 4000, Integer.MIN_VALUE, Integer.MAX_VALUE}) {
            Checks.fails("told(" + i + ")", STATE, () -> x.told(i));
            Checks.fails("letter(" + i + ")", STATE, () -> x.letter(i));
            Checks.fails("whose(" + i + ")", STATE, () -> x.whose(i));
        }
        Checks.fails("wrong", STATE, () -> x.wrong());
    }

    private static void nothingToRun(QuillEngine x) {
        for (int heap : new int[] {0, 4000, -1, 4001}) {
            for (int deep : new int[] {1, 12, 0, 13}) {
                Checks.fails("run(" + heap + ", " + deep + ")", STATE, () -> x.run(heap, deep));
            }
        }
        nothingRun(x);
    }

    private static void newObject() {
        Sentences.of("No bytes, no program; nothing was run.");
        Checks.same("no bytes: the first feed", 1, new QuillEngine().feed(0, 1));
        Checks.same("no bytes: the first feed", 8, new QuillEngine().feed(0, 8));
        Checks.same("no bytes: read", 1, new QuillEngine().read());
        QuillEngine x = new QuillEngine();
        x.read();
        Checks.same("no bytes: the text ends at once", 0, x.place());
        Checks.same("no program", -1, new QuillEngine().place());
        nothingToRun(new QuillEngine());
    }

    private static void fed() {
        Sentences.of("The n lowest bytes of eight come to the tape, the lowest first: how many there are.");
        QuillEngine x = new QuillEngine();
        int many = 0;
        for (int n = 1; n <= 8; n++) {
            many += n;
            Checks.same("feed of " + n, many, x.feed(-1L, n));
        }
        Checks.same("read", 1, x.read());
        // the higher bytes are not taken, whatever they are
        for (int n = 1; n <= 8; n++) {
            String text = Edges.main("print \"abcdefgh\"; return 3;");
            QuillEngine y = new QuillEngine();
            for (int i = 0; i < text.length(); i += n) {
                int count = Math.min(n, text.length() - i);
                long eight = count == 8 ? 0 : -1L << 8 * count;
                for (int k = 0; k < count; k++) {
                    eight |= (long) text.charAt(i + k) << 8 * k;
                }
                Checks.same("feed", i + count, y.feed(eight, count));
            }
            Checks.same("read", 0, y.read());
            Checks.same("run", 0, y.run(0, 1));
            Checks.same("told", "abcdefgh", Checks.toldText(y));
        }
        // each of the eight can be 128 and more: it is no word, and its place is told
        for (int k = 0; k < 8; k++) {
            QuillEngine y = new QuillEngine();
            long eight = 0x2020202020202020L & ~(255L << 8 * k) | 200L << 8 * k;
            Checks.same("feed", 8, y.feed(eight, 8));
            Checks.same("read", 1, y.read());
            Checks.same("place", k, y.place());
        }
    }

    private static void fedWrongly() {
        Sentences.of("IllegalArgumentException: n isn't 1 .. 8,");
        QuillEngine x = new QuillEngine();
        for (int n : new int[] {0, -1, 9, 10, 16, 64, 257, 264}) {
            Checks.fails("feed of " + n, ARGUMENT, () -> x.feed('f', n));
        }
        for (int n : FAR) {
            Checks.fails("feed of " + n, ARGUMENT, () -> x.feed('f', n));
        }
        Checks.same("none of these bytes came", 1, x.feed(' ', 1));
        Checks.same("none of these bytes came", 9, x.feed(0x2020202020202020L, 8));
        Sentences.of("or there would be more than 3200.");
        for (int n = 1; n <= 8; n++) {
            int last = n;
            QuillEngine y = new QuillEngine();
            for (int i = 1; i < 400; i++) {
                y.feed(0x2020202020202020L, 8);
            }
            if (n < 8) {
                Checks.same("feed", 3200 - n, y.feed(0x2020202020202020L, 8 - n));
            }
            for (int more = n + 1; more <= 8; more++) {
                int m = more;
                Checks.fails("feed of " + m + " with room for " + n, ARGUMENT, () -> y.feed(32, m));
            }
            Checks.same("feed of the last", 3200, y.feed(0x2020202020202020L, last));
            for (int more = 1; more <= 8; more++) {
                int m = more;
                Checks.fails("feed of " + m + " to the full tape", ARGUMENT, () -> y.feed(32, m));
            }
            Checks.fails("feed of a wrong n to the full tape", ARGUMENT, () -> y.feed(32, 0));
            Checks.same("read", 1, y.read());
            Checks.same("place", 3000, y.place());
            Checks.same("feed to the empty one", last, y.feed(0x2020202020202020L, last));
        }
    }

    private static void read() {
        Sentences.of("The tape (empty then) is a text, and the program from now on: 0, or the kind of its fault, 1 to 3 (then nothing can be run).");
        QuillEngine x = new QuillEngine();
        Checks.feed(x, MAIN);
        Checks.same("read", 0, x.read());
        Checks.same("empty then", 2, x.feed(0x2020, 2));
        Checks.same("the program from now on", 0, x.run(0, 1));
        Checks.same("the program from now on", 5, x.told(0));
        String[] texts = {"#", "", "fn main(): int { return a; }", "fn f(): int { }",
            "fn main(): int { return \"\"; }", "  "};
        int[] kinds = {1, 1, 2, 2, 3, 1};
        x.read();
        for (int i = 0; i < texts.length; i++) {
            Checks.feed(x, texts[i]);
            Checks.same("read of " + texts[i], kinds[i], x.read());
            nothingToRun(x);
            Checks.same("empty then", 1, x.feed(32, 1));
            Checks.feed(x, MAIN);
            Checks.same("read behind " + texts[i], 0, x.read());
            Checks.same("run", 0, x.run(0, 1));
            Checks.same("the program from now on", 5, x.told(0));
            Checks.feed(x, Edges.main("return 6;"));
            Checks.same("bytes on the tape are no program", 0, x.run(0, 1));
            Checks.same("bytes on the tape are no program", 5, x.told(0));
            Checks.same("read", 0, x.read());
            Checks.same("run", 0, x.run(0, 1));
            Checks.same("the program from now on", 6, x.told(0));
        }
        readAgain(new QuillEngine());
        readShorter();
    }

    /** One full program behind the other: none leaves anything of it to the next. */
    private static void readAgain(QuillEngine x) {
        for (int i = 0; i < 6; i++) {
            Checks.feed(x, Edges.main("let a = 1; " + "a=a+1;".repeat(100 + i) + "a=a*2-a;".repeat(190)
                + " return a;"));
            Checks.same("read of a full one", 0, x.read());
            Checks.same("run", 0, x.run(0, 1));
            Checks.same("the program from now on", 101 + i, x.told(0));
            Checks.feed(x, Edges.main("print \"" + "b".repeat(i) + "\"; return " + i + ";"));
            Checks.same("read of a short one", 0, x.read());
            Checks.same("run", 0, x.run(0, 1));
            Checks.same("told", "b".repeat(i), Checks.toldText(x));
            Checks.same("the program from now on", i, x.told(0));
        }
    }

    /** The bytes of the text ahead are gone, also the one that stood where this one ends. */
    private static void readShorter() {
        String[] shorter = {"do 1 @=", "do 1 <@", "do 1 @!", "do @\"ab", "do @\"", "let a = 1@", "let a@",
            "do 1 / 1@", "do @"};
        String[] signs = {"=", "=", "=", "\"", "\"", "2;", "b", ";", "1"};
        for (int i = 0; i < shorter.length; i++) {
            String head = "fn main(): int { " + shorter[i];
            int at = head.indexOf('@');
            String text = head.replace("@", "");
            QuillEngine x = new QuillEngine();
            Checks.feed(x, "#".repeat(text.length()) + signs[i].repeat(50));
            Checks.same("read", 1, x.read());
            Checks.feed(x, text);
            Checks.same("read of " + text, 1, x.read());
            Checks.same("place of " + text, at, x.place());
        }
    }

    private static void whatWasRun() {
        Sentences.of("What was run goes.");
        for (String next : new String[] {MAIN, "#", "", "fn f(): int { }", "fn main(): int { return \"\"; }"}) {
            QuillEngine x = Checks.right(Edges.main("let t = sign(65); print t; return 7;"));
            Checks.same("run", 0, x.run(10, 1));
            Checks.feed(x, next);
            Checks.same("feed lets it be", 7, x.told(0));
            Checks.same("feed lets it be", 65, x.letter(0));
            x.read();
            nothingRun(x);
        }
    }

    private static void place() {
        Sentences.of("The place of its fault; -1 without one, or without a program.");
        QuillEngine x = new QuillEngine();
        Checks.same("without a program", -1, x.place());
        x.feed('#', 1);
        Checks.same("without a program", -1, x.place());
        // one program behind the other, of all kinds, each behind each
        String[] texts = {MAIN, "  #", "   fn main(): int { return a; }", "    fn main(): int { return \"\"; }", ""};
        int[] kinds = {0, 1, 2, 3, 1};
        int[] places = {-1, 2, 27, 28, 0};
        x.read();
        for (int i = 0; i < 25; i++) {
            for (int k : new int[] {i / 5, i % 5}) {
                Checks.feed(x, texts[k]);
                Checks.same("read of " + texts[k], kinds[k], x.read());
                Checks.same("place of " + texts[k], places[k], x.place());
                x.feed(32, 1);
                Checks.same("feed lets it be", places[k], x.place());
                if (kinds[k] == 0) {
                    x.run(10, 1);
                    Checks.same("run lets it be", -1, x.place());
                }
                x.read();
            }
        }
    }

    private static void run() {
        Sentences.of("The program is run with a heap of so many places, and at most so many functions under way at once: how it ENDS.");
        String text = "fn f(n: int): int { if n { return f(n - 1); } return 1; } "
            + Edges.main("let t = \"ab\" & \"c\"; print t; do f(2); return 9;");
        QuillEngine x = Checks.right(text);
        int[] heaps = {0, 3, 4, 5, 4000};
        for (int heap : heaps) {
            for (int deep = 1; deep <= 12; deep++) {
                int due = heap < 4 ? 2 : deep < 4 ? 3 : 0;
                Checks.same("run(" + heap + ", " + deep + ")", due, x.run(heap, deep));
                Checks.same("told(0)", due == 0 ? 9 : 0, x.told(0));
                Checks.same("told(7)", due == 3 ? heap - 4 : heap, x.told(7));
            }
        }
    }

    private static void runWrongly() {
        Sentences.of("IllegalStateException: there is none, or it has a fault.");
        nothingToRun(new QuillEngine());
        for (String text : new String[] {"", "#", "fn f(): int { }", "fn main(): int { do a; }",
            "fn main(): int { return \"\"; }"}) {
            nothingToRun(Checks.reading(text));
        }
        QuillEngine fed = new QuillEngine();
        Checks.feed(fed, MAIN);
        nothingToRun(fed);
        Sentences.of("IllegalArgumentException: heap isn't 0 .. 4000, or deep isn't 1 .. 12.");
        QuillEngine x = Checks.right(Edges.main("let t = sign(65); print t; return 7;"));
        refused(x);
        nothingRun(x);
        Checks.same("run", 2, x.run(0, 1));
        Checks.same("run", 0, x.run(4000, 12));
        refused(x);
        Checks.same("the latest run is still that one", 7, x.told(0));
        Checks.same("the latest run is still that one", 4000, x.told(7));
        Checks.same("the latest run is still that one", 65, x.letter(0));
        Checks.same("the latest run is still that one", -1, x.whose(3999));
    }

    private static void refused(QuillEngine x) {
        for (int heap : new int[] {-1, 4001, 4096}) {
            Checks.fails("run(" + heap + ", 1)", ARGUMENT, () -> x.run(heap, 1));
            Checks.fails("run(" + heap + ", 0)", ARGUMENT, () -> x.run(heap, 0));
        }
        for (int deep : new int[] {0, -1, 13, 14}) {
            Checks.fails("run(0, " + deep + ")", ARGUMENT, () -> x.run(0, deep));
            Checks.fails("run(4000, " + deep + ")", ARGUMENT, () -> x.run(4000, deep));
        }
        for (int far : FAR) {
            Checks.fails("run(" + far + ", 1)", ARGUMENT, () -> x.run(far, 1));
            Checks.fails("run(0, " + far + ")", ARGUMENT, () -> x.run(0, far));
            Checks.fails("run(" + far + ", " + far + ")", ARGUMENT, () -> x.run(far, far));
        }
    }

    private static void toldNumbers() {
        Sentences.of("Of the latest run:");
        QuillEngine x = Checks.right(Edges.main("let t = \"ab\" & \"c\"; print t; let u = sign(1); print u; return 7;"));
        int[] heaps = {10, 0, 4, 5, 6, 3, 4000, 5};
        int[][] due = {{7, 4, 6, 2, 6, 0, 1, 10}, {0, 0, 2, 0, 0, 0, 0, 0}, {0, 3, 4, 1, 4, 4, 0, 0}, {0, 3, 4, 1, 4,
            4, 1, 1},
            {7, 4, 6, 2, 6, 0, 1, 6}, {0, 0, 2, 0, 0, 0, 1, 3}, {7, 4, 6, 2, 6, 0, 1, 4000}, {0, 3, 4, 1, 4, 4, 1,
            1}};
        for (int i = 0; i < heaps.length; i++) {
            Checks.same("run(" + heaps[i] + ", 1)", due[i][0] == 7 ? 0 : 2, x.run(heaps[i], 1));
            for (int what = 0; what < 8; what++) {
                Checks.same("told(" + what + ") of " + heaps[i], due[i][what], x.told(what));
            }
        }
        Sentences.of("0 what main returned (0 if it did not),");
        for (int n : new int[] {0, 1, -1, 2147483647, -2147483647}) {
            Checks.same("returned", n, Edges.run(0, 0, 1, Edges.main("return " + n + ";")).told(0));
        }
        Checks.same("returned", 0, Edges.run(0, 0, 1, Edges.main("do 7;")).told(0));
        QuillEngine y = Checks.right("fn f(n: int): int { return n; } "
            + Edges.main("let a = 5; return f(7) + len(sign(a));"));
        Checks.same("run", 0, y.run(2, 2));
        Checks.same("returned", 8, y.told(0));
        Checks.same("run", 2, y.run(1, 2));
        Checks.same("it did not return", 0, y.told(0));
        Checks.same("run", 3, y.run(2, 1));
        Checks.same("it did not return", 0, y.told(0));
        Sentences.of("1 bytes told, 2 STEPS that went by,");
        for (int n : new int[] {0, 1, 50, 100}) {
            y = Edges.run(0, 0, 1, Edges.main("print \"" + "a".repeat(n) + "\"; print -1;"));
            Checks.same("bytes told", n + 2, y.told(1));
            Checks.same("steps", 3, y.told(2));
        }
        y = Edges.run(1, 0, 1, Edges.main("print \"a\"; do 1 / 0; print \"b\";"));
        Checks.same("bytes told", 1, y.told(1));
        Checks.same("steps", 3, y.told(2));
    }

    private static void toldHeap() {
        Sentences.of("3 blocks made,");
        Checks.same("made", 0, Edges.run(0, 0, 1, Edges.main("print 1;")).told(3));
        Checks.same("made", 1, Edges.run(0, 2, 1, Edges.main("do sign(1);")).told(3));
        Checks.same("made", 600, Edges.run(0, 2, 1,
            Edges.main("let k = 0; while k < 600 { do sign(1); k = k + 1; }")).told(3));
        Checks.same("the one without room is not made", 1, Edges.run(2, 2, 1,
            Edges.main("let t = sign(1); let u = sign(1);")).told(3));
        Sentences.of("4 the most places that were taken at once,");
        Checks.same("most", 0, Edges.run(0, 10, 1, Edges.main("print 1;")).told(4));
        Checks.same("most", 2, Edges.run(0, 10, 1, Edges.main("do sign(1); do sign(2);")).told(4));
        Checks.same("most", 4, Edges.run(0, 10, 1,
            Edges.main("let t = sign(1); t = sign(2); t = \"\"; t = sign(3);")).told(4));
        Checks.same("most", 10, Edges.run(0, 10, 1,
            Edges.main("let t = digits(12345678 + 100000000); t = \"\"; do sign(1);")).told(4));
        Checks.same("the one without room is not taken", 4, Edges.run(2, 10, 1,
            Edges.main("let t = digits(123); do digits(123456);")).told(4));
        Sentences.of("5 places taken at the end (of ENDS 1 to 5 as all stood then),");
        Checks.same("taken", 0, Edges.run(0, 10, 1, Edges.main("let t = sign(1);")).told(5));
        Checks.same("taken", 2, Edges.run(1, 10, 1, Edges.main("let t = sign(1); do 1 / 0;")).told(5));
        Checks.same("taken", 4, Edges.run(1, 10, 1, Edges.main("let t = sign(1); do sign(1)[1 / 0];")).told(5));
        Checks.same("taken", 4, Edges.run(2, 5, 1, Edges.main("let t = sign(1); do sign(1) & sign(2);")).told(5));
        Checks.same("taken", 6, Edges.run(2, 8, 1, Edges.main("let t = sign(1); do sign(1) & sign(2);")).told(5));
        Checks.same("taken", 4, Edges.run(3, 8, 1, "fn f(t: text): int { } "
            + Edges.main("let t = sign(1); do f(sign(1));")).told(5));
        Checks.same("taken", 2, Edges.run(4, 8, 1, Edges.main("let t = sign(1); while 1 { }")).told(5));
        Checks.same("taken", 4, Edges.run(4, 8, 1, Edges.main("let t = sign(1); " + Edges.pass(19996)
            + "do find(\"ab\", sign(1));")).told(5));
        Checks.same("taken", 4, Edges.run(4, 8, 2, "fn f(t: text): int { } " + Edges.main("let t = sign(1); "
            + Edges.pass(19997) + "do f(sign(1));")).told(5));
        Checks.same("taken", 4, Edges.run(5, 8, 1, Edges.main("let t = sign(1); while 1 { print sign(2); print \""
            + "x".repeat(99) + "\"; }")).told(5));
        Checks.same("taken", 2, Edges.run(5, 8, 1, Edges.main("let t = sign(1); while 1 { print \"" + "x".repeat(100)
            + "\"; }")).told(5));
    }

    private static void pieces(int pieces, int longest, String map, String s) {
        QuillEngine x = Edges.run(1, map.length(), 12, Edges.main(s + " do 1 / 0;"));
        Checks.same("places", map, Edges.map(x, map.length()));
        Checks.same("pieces of " + map, pieces, x.told(6));
        Checks.same("longest of " + map, longest, x.told(7));
        Checks.same("taken of " + map, map.replace(".", "").length(), x.told(5));
    }

    private static void toldPieces() {
        Sentences.of("6 pieces of free places side by side at the end, as long as can be, 7 the longest of these (0 without one).");
        String four = "let a = sign(1); let b = \"a\" & \"b\"; let c = sign(2); let d = digits(123); ";
        pieces(0, 0, "", "");
        pieces(1, 1, ".", "");
        pieces(1, 5, ".....", "");
        pieces(0, 0, "00111223333", four);
        pieces(1, 1, "00111223333.", four);
        pieces(1, 2, "..111223333", four + "a = \"\";");
        pieces(1, 3, "00...223333", four + "b = \"\";");
        pieces(1, 4, "0011122....", four + "d = \"\";");
        pieces(1, 5, ".....223333", four + "a = \"\"; b = a;");
        pieces(1, 5, ".....223333", four + "b = \"\"; a = b;");
        pieces(1, 7, ".......3333", four + "a = \"\"; c = \"\"; b = a;");
        pieces(2, 2, "..111..3333", four + "a = \"\"; c = \"\";");
        pieces(2, 4, "..11122....", four + "a = \"\"; d = \"\";");
        pieces(2, 6, "00...22......", four + "b = \"\"; d = \"\";");
        pieces(3, 3, "..111..3333...", four + "a = \"\"; c = \"\";");
        pieces(1, 11, "...........", four + "a = \"\"; c = \"\"; b = \"\"; d = \"\";");
        pieces(1, 13, ".............", four + "d = \"\"; c = \"\"; b = \"\"; a = \"\";");
        pieces(2, 1, "22.11.", "let a = \"x\" & \"y\"; let b = sign(1); a = \"\"; let c = sign(2);");
    }

    private static void toldWrongly() {
        Sentences.of("IllegalStateException: nothing was run.");
        nothingRun(new QuillEngine());
        nothingRun(Checks.reading(MAIN));
        nothingRun(Checks.reading("#"));
        Sentences.of("IllegalArgumentException: another what.");
        QuillEngine x = Checks.right(MAIN);
        x.run(10, 1);
        for (int what : new int[] {-1, 8, 9, 16, 256}) {
            Checks.fails("told(" + what + ")", ARGUMENT, () -> x.told(what));
        }
        for (int what : FAR) {
            Checks.fails("told(" + what + ")", ARGUMENT, () -> x.told(what));
        }
        Checks.same("told(0)", 5, x.told(0));
        Checks.same("told(7)", 10, x.told(7));
    }

    private static void letters() {
        Sentences.of("Byte i that was told; -1 without it.");
        QuillEngine x = Edges.run(0, 100, 1,
            Edges.main("print \"ab\"; print -1; print sign(0); print sign(255); print sign(128);"));
        int[] due = {'a', 'b', '-', '1', 0, 255, 128, -1, -1};
        for (int i = 0; i < due.length; i++) {
            Checks.same("letter(" + i + ")", due[i], x.letter(i));
        }
        for (int i : FAR) {
            Checks.same("letter(" + i + ")", -1, x.letter(i));
        }
        for (int i : new int[] {-2, 1999, 2000, 2001, 4000}) {
            Checks.same("letter(" + i + ")", -1, x.letter(i));
        }
        QuillEngine y = Checks.right(Edges.main("print \"abc\"; do sign(1); print \"d\";"));
        y.run(2, 1);
        Checks.same("letter(3)", 'd', y.letter(3));
        y.run(1, 1);
        Checks.same("letter(2)", 'c', y.letter(2));
        Checks.same("letter(3) of the latest run", -1, y.letter(3));
        QuillEngine z = Edges.run(0, 0, 1, Edges.main("print \"\";"));
        Checks.same("letter(0) of none", -1, z.letter(0));
        Sentences.of("IllegalStateException: nothing was run.");
        nothingRun(new QuillEngine());
        nothingRun(Checks.reading(MAIN));
    }

    private static void whose() {
        Sentences.of("Whose place k of the heap was at the end: -1 nobody's, else how many blocks were made ahead of its own.");
        QuillEngine x = Edges.run(1, 12, 1,
            Edges.main("let a = sign(1); do sign(9); let b = \"a\" & \"b\"; let c = sign(2); a = \"\"; a = sign(3); do 1 / 0;"));
        int[] due = {4, 4, 2, 2, 2, 3, 3, -1, -1, -1, -1, -1};
        for (int k = 0; k < due.length; k++) {
            Checks.same("whose(" + k + ")", due[k], x.whose(k));
        }
        QuillEngine y = Edges.run(0, 4000, 1, Edges.main("let a = sign(1);"));
        for (int k = 0; k < 4000; k += 43) {
            Checks.same("nobody's behind main", -1, y.whose(k));
        }
        y = Edges.run(1, 4, 1,
            Edges.main("let k = 0; while k < 999 { do sign(1); k = k + 1; } let t = sign(2); do 1 / 0;"));
        Checks.same("whose(0)", 999, y.whose(0));
        Checks.same("whose(1)", 999, y.whose(1));
        Checks.same("whose(2)", -1, y.whose(2));
        Sentences.of("IllegalStateException: nothing was run.");
        nothingRun(new QuillEngine());
        nothingRun(Checks.reading(MAIN));
        Sentences.of("IndexOutOfBoundsException: there is no such place.");
        QuillEngine z = Checks.right(MAIN);
        for (int heap : new int[] {0, 1, 10, 3999, 4000, 7}) {
            z.run(heap, 1);
            for (int k : new int[] {-1, heap, heap + 1, 4000, 4001}) {
                Checks.fails("whose(" + k + ") of " + heap, INDEX, () -> z.whose(k));
            }
            for (int k : FAR) {
                Checks.fails("whose(" + k + ") of " + heap, INDEX, () -> z.whose(k));
            }
            if (heap > 0) {
                Checks.same("whose of the first", -1, z.whose(0));
                Checks.same("whose of the last", -1, z.whose(heap - 1));
            }
        }
    }

    private static void wrong() {
        Sentences.of("How often, in the latest run, a byte of a block was read that was free, or a block had no text that refers to it and wasn't free, behind an S.");
        String s = "let t = \"ab\" & \"cd\"; let u = t[1 : 3]; t = \"\"; print u; t = u & u; u = \"\"; print t; do f(t & \"x\", t); let k = 0;"
            + " while k < 9 { let w = t[k : k + 1] & digits(k); t = w & t; k = k + 1; } print t == u; do find(t, \"8\"); ";
        String f = "fn f(a: text, b: text): text { let c = a & b; a = c[0 : 2]; b = a; return b & c; } ";
        QuillEngine x = Checks.right(f + Edges.main(s + "while 1 { print t; }"));
        for (int heap = 0; heap < 120; heap++) {
            for (int deep = 1; deep < 3; deep++) {
                x.run(heap, deep);
                Checks.same("wrong of run(" + heap + ", " + deep + ")", 0, x.wrong());
            }
        }
        Sentences.of("IllegalStateException: nothing was run.");
        nothingRun(new QuillEngine());
        nothingRun(Checks.reading(MAIN));
    }
}
