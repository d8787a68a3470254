/** Promises 5 and 6: STEPS, how a run ENDS, each at its edge, and which comes first. */
final class EndsTest {
    private EndsTest() {
    }

    private static QuillEngine ends(int how, int steps, int deep, String text) {
        QuillEngine x = Checks.right(text);
        Checks.same("run of " + text, how, x.run(4000, deep));
        Checks.same("steps of " + text, steps, x.told(2));
        Checks.same("wrong of " + text, 0, x.wrong());
        if (how != 0) {
            Checks.same("returned by " + text, 0, x.told(0));
        }
        return x;
    }

    private static QuillEngine main(int how, int steps, String inside) {
        return ends(how, steps, 12, "fn main(): int { " + inside + " }");
    }

    private static void byZero() {
        main(1, 2, "do 1 / 0;");
        main(1, 2, "do 0 % 0;");
        main(1, 2, "return 5 / (1 - 1);");
        main(1, 3, "let a = 0; if 7 % a { }");
        main(1, 2, "do 1 / 0 + main();");
        QuillEngine x = main(1, 3, "print \"ab\"; print 1 / 0; print \"c\";");
        Checks.same("told", "ab", Checks.toldText(x));
    }

    private static void deep() {
        String f = "fn f(n: int): int { if n == 0 { return 7; } return f(n - 1); } fn main(): int { return f(";
        for (int n = 0; n < 11; n++) {
            QuillEngine x = ends(0, 2 + 3 * (n + 1), n + 2, f + n + "); }");
            Checks.same("returned", 7, x.told(0));
            ends(3, 2 + 3 * n, n + 1, f + n + "); }");
        }
        ends(3, 35, 12, f + "11); }");
        ends(3, 2, 1, "fn main(): int { return main(); }");
        ends(3, 24, 12, "fn main(): int { return main(); }");
        // what is handed over is worked out ahead of it
        ends(1, 2, 1, "fn f(n: int): int { } fn main(): int { return f(1 / 0); }");
        QuillEngine x = ends(3, 2, 1, "fn f(t: text): int { } fn main(): int { return f(sign(1)); }");
        Checks.same("what was to be handed over is taken", 2, x.told(5));
        // and of an inner call first
        ends(3, 2, 1, "fn f(n: int): int { } fn main(): int { return f(f(1)); }");
        ends(0, 4, 2, "fn f(n: int): int { } fn main(): int { return f(f(1)); }");
    }

    private static void steps() {
        main(4, 20000, "while 1 { }");
        main(4, 20000, "while 1 { do 1; }");
        main(4, 20000, "while 1 { if 1 { } else { } }");
        ends(4, 20000, 12, "fn f(): int { } fn main(): int { while 1 { do f(); } }");
        // call, let, while: 3, and 2 a round: 19999 with 9998 rounds, and one S more
        main(0, 19999, "let k = 0; while k < 9998 { k = k + 1; }");
        main(0, 20000, "let k = 0; while k < 9998 { k = k + 1; } do 1;");
        main(4, 20000, "let k = 0; while k < 9998 { k = k + 1; } do 1; do 2;");
        main(4, 20000, "let k = 0; while k < 9999 { k = k + 1; }");
        QuillEngine x = main(4, 20000, "let k = 0; while k < 9998 { k = k + 1; } print 1; print 2;");
        Checks.same("told", "1", Checks.toldText(x));
        x = main(0, 20000, "let k = 0; while k < 9998 { k = k + 1; } return 3;");
        Checks.same("returned", 3, x.told(0));
        // the STEP of a call goes by behind what is handed over, and behind 3
        String rest = "let k = 0; while k < 9998 { k = k + 1; } ";
        ends(4, 20000, 12, "fn f(n: int): int { } fn main(): int { " + rest + "do f(1); }");
        ends(1, 20000, 12, "fn f(n: int): int { } fn main(): int { " + rest + "do f(1 / 0); }");
        ends(3, 20000, 1, "fn f(n: int): int { } fn main(): int { " + rest + "do f(1); }");
        main(4, 20000, rest + "while 1 { }");
        main(0, 20000, rest + "while 0 { }");
        main(1, 20000, rest + "while 1 / 0 { }");
        main(0, 20000, rest + "if 1 { }");
        main(4, 20000, rest + "if 1 { do 1; }");
    }

    private static void find() {
        main(0, 5, "do find(\"abc\", \"x\");");
        main(0, 5, "do find(\"abc\", \"a\");");
        main(0, 5, "do find(\"abc\", \"\");");
        main(0, 2, "do find(\"\", \"abc\");");
        main(0, 3, "do find(\"a\", \"abc\");");
        main(0, 6, "do find(\"abc\"[1 : 3], \"x\") + find(\"bc\", \"x\");");
        String rest = "let k = 0; while k < 9996 { k = k + 1; } ";
        main(0, 19999, rest + "do find(\"abc\", \"x\");");
        main(0, 20000, rest + "do find(\"abcd\", \"x\");");
        QuillEngine x = main(4, 20000, rest + "print find(\"abcde\", \"a\");");
        Checks.same("told", "", Checks.toldText(x));
        x = main(4, 20000, rest + "print find(sign(97) & \"bcde\", sign(97));");
        Checks.same("its parts are LIVE", 8, x.told(5));
        main(1, 19996, rest + "do find(\"abcde\", digits(1 / 0));");
        main(0, 2 + 3 * 100, "do find(\"" + "a".repeat(100) + "\", \"b\") + find(\"" + "a".repeat(100)
            + "\", \"a\") + find(\"" + "b".repeat(100) + "\", \"" + "b".repeat(100) + "\");");
    }

    private static void toldTooMuch() {
        String hundred = "print \"" + "x".repeat(100) + "\"; ";
        String full = "let k = 0; while k < 20 { " + hundred + "k = k + 1; } ";
        int steps = 3 + 20 * 3;
        QuillEngine x = main(0, steps, full);
        Checks.same("told", 2000, x.told(1));
        Checks.same("letter(1999)", 'x', x.letter(1999));
        Checks.same("letter(2000)", -1, x.letter(2000));
        x = main(5, steps + 1, full + "print \"a\"; return 1;");
        Checks.same("told", 2000, x.told(1));
        x = main(5, steps + 1, full + "print 0; return 1;");
        Checks.same("told", 2000, x.told(1));
        x = main(0, steps + 2, full + "print \"\"; return 1;");
        Checks.same("told", 2000, x.told(1));
        Checks.same("returned", 1, x.told(0));
        String almost = full.replace("k < 20", "k < 19") + "print \"" + "y".repeat(98) + "\"; ";
        x = main(5, steps - 1, almost + "print 100;");
        Checks.same("none of these", 1998, x.told(1));
        Checks.same("letter(1997)", 'y', x.letter(1997));
        Checks.same("letter(1998)", -1, x.letter(1998));
        x = main(0, steps, almost + "print 7; print -7 + 7;");
        Checks.same("told", 2000, x.told(1));
        Checks.same("letter(1998)", '7', x.letter(1998));
        Checks.same("letter(1999)", '0', x.letter(1999));
        x = main(5, steps, almost + "print 7; print -7;");
        Checks.same("told", 1999, x.told(1));
        x = main(5, steps - 1, almost + "print sign(1) & \"ab\";");
        Checks.same("told", 1998, x.told(1));
        Checks.same("its text is LIVE", 4, x.told(5));
    }

    /** Of several in one act the first that comes: parts from the left. */
    private static void first() {
        QuillEngine x = Checks.right("fn main(): int { do len(sign(1)) + 1 / 0; }");
        Checks.same("no room first", 2, x.run(1, 1));
        Checks.same("by zero", 1, x.run(2, 1));
        x = Checks.right("fn main(): int { do 1 / 0 + len(sign(1)); }");
        Checks.same("by zero first", 1, x.run(1, 1));
        x = Checks.right("fn main(): int { do 1 / 0 + main(); }");
        Checks.same("by zero first", 1, x.run(1, 1));
        x = Checks.right("fn main(): int { do main() / 0; }");
        Checks.same("too deep first", 3, x.run(1, 1));
        x = Checks.right("fn main(): int { do 0 / (1 / 0); }");
        Checks.same("by zero", 1, x.run(1, 1));
        x = Checks.right("fn main(): int { print sign(1); print 1 / 0; }");
        Checks.same("no room", 2, x.run(0, 1));
        Checks.same("nothing told", 0, x.told(1));
        Checks.same("by zero", 1, x.run(2, 1));
        Checks.same("one byte told", 1, x.told(1));
        Checks.same("it", 1, x.letter(0));
    }

    public static void main(String[] args) {
        byZero();
        deep();
        steps();
        find();
        toldTooMuch();
        first();
        Checks.end("EndsTest");
    }
}
