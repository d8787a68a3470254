/** What the document begins with: the engine as a whole, each clause of its one sentence. */
final class EdgesOfEngine {
    private EdgesOfEngine() {
    }

    static void all() {
        readCheckedRun();
        joined();
        shared();
        freeAtOnce();
        outOfRoom();
    }

    private static void readCheckedRun() {
        Sentences.of("An engine for a small language of texts: programs are read, checked and run in a heap of told size,");
        QuillEngine x = new QuillEngine();
        checked(x, 1, 23, "fn main(): int { let t 1; }");
        checked(x, 2, 21, "fn main(): int { do (t); }");
        checked(x, 3, 25, "fn main(): int { let t = 1 & \"\"; }");
        checked(x, 0, -1, "fn main(): int { let t = sign(65) & \"b\"; print t; return len(t); }");
        for (int heap : new int[] {5, 6, 4000}) {
            Checks.same("run(" + heap + ", 1)", 0, x.run(heap, 1));
            Checks.same("what main returned", 2, x.told(0));
            Checks.same("told", "Ab", Checks.toldText(x));
            Checks.same("free places", heap, x.told(7));
        }
        for (int heap : new int[] {0, 1, 2, 4}) {
            Checks.same("run(" + heap + ", 1)", 2, x.run(heap, 1));
            Checks.same("told", "", Checks.toldText(x));
        }
    }

    private static void checked(QuillEngine x, int kind, int place, String text) {
        Checks.feed(x, text);
        Checks.same("read of " + text, kind, x.read());
        Checks.same("place of " + text, place, x.place());
    }

    private static void joined() {
        Sentences.of("where texts joined are made,");
        Edges.places("000000", "let t = \"ab\" & \"cde\";");
        Edges.places("0001111", "let a = \"a\" & \"b\"; let t = a & \"c\";");
        Edges.places("00011111", "let a = \"a\" & \"b\"; let t = a & a;");
        // what is made stays as it is, whatever comes of the texts that were joined
        Edges.tells("abab-ab-abab", "let a = \"a\" & \"b\"; let t = a & a; print t; a = \"-\" & a; print a; a = \"-\" & t; print a;");
    }

    private static void shared() {
        Sentences.of("parts of texts share what they are parts of,");
        Edges.places("00000...", "let a = \"ab\" & \"cd\"; let b = a[0 : 2]; let c = b[1 : 2]; let d = a[2 : 9];");
        Edges.places("00000...", "let a = (\"ab\" & \"cd\")[1 : 2];");
        Edges.places("........", "let a = \"abcd\"[1 : 3]; let b = a[0 : 1];");
        Edges.makes(1, 5, "let a = \"ab\" & \"cd\"; let b = a[0 : 2]; let c = b[1 : 2]; let d = a[2 : 9]; print b == c;");
    }

    private static void freeAtOnce() {
        Sentences.of("each block is free again the moment that nothing refers to it,");
        // the next block is made where the last one stood, or not at all
        Edges.run(0, 2, 1, Edges.main("do sign(1); do sign(2);"));
        Edges.run(0, 2, 1, Edges.main("do len(sign(1)) + len(sign(2));"));
        Edges.run(0, 2, 1, Edges.main("do sign(sign(1)[0]);"));
        Edges.run(0, 2, 1, Edges.main("do sign(1)[1 : 1] == sign(2);"));
        Edges.run(0, 2, 1, Edges.main("let t = sign(1); t = \"\"; t = sign(2);"));
        Edges.run(0, 2, 1, Edges.main("if 1 { let t = sign(1); } let t = sign(2);"));
        Edges.run(0, 2, 1, Edges.main("let k = 0; while k < 3 { let t = sign(k); k = k + 1; }"));
        Edges.run(0, 2, 2, "fn f(t: text): int { t = \"\"; return len(sign(2)); } " + Edges.main("return f(sign(1));"));
        Edges.run(0, 2, 2, "fn f(): int { let t = sign(1); return 2; } " + Edges.main("do sign(f());"));
        Edges.places("33..22", "let a = sign(1); let b = sign(2); let c = sign(3); a = \"\"; b = \"\"; a = sign(4);");
    }

    private static void outOfRoom() {
        Sentences.of("and a run is out of room only when no free places side by side are enough.");
        String[] ahead = {"", "let a = sign(1); ", "let a = sign(1); let b = sign(2); a = \"\"; ",
            "let a = digits(123); let b = sign(2); let c = digits(1234); let d = sign(3); a = \"\"; c = \"\"; ",
            "let a = digits(1234); let b = sign(2); let c = digits(123); let d = sign(3); a = \"\"; c = \"\"; ",
            "let a = digits(12); let b = digits(12); let c = digits(12); let d = digits(12); b = \"\"; d = \"\"; "};
        int[] places = {0, 2, 4, 13, 13, 12};
        for (int i = 0; i < ahead.length; i++) {
            for (int heap = places[i]; heap <= 24; heap++) {
                roomFor(heap, ahead[i]);
            }
        }
    }

    /** A block of n bytes can be made if, and only if, the longest piece has n + 1 places. */
    private static void roomFor(int heap, String ahead) {
        int longest = Edges.run(1, heap, 1, Edges.main(ahead + "do 1 / 0;")).told(7);
        for (int n = 2; n <= heap + 1; n++) {
            String s = ahead + "let z = \"" + "z".repeat(n - 1) + "\" & \"z\";";
            QuillEngine x = Edges.run(n + 1 > longest ? 2 : 0, heap, 1, Edges.main(s));
            Checks.same("longest piece of " + heap + " behind " + s, n + 1 > longest ? longest : heap, x.told(7));
        }
    }
}
