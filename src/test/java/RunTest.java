/** Promises 5, 6 and 7: what an E and an S come to, and what is told. */
final class RunTest {
    private RunTest() {
    }

    private static QuillEngine ran(String text) {
        QuillEngine x = Checks.right(text);
        Checks.same("run of " + text, 0, x.run(4000, 12));
        Checks.same("wrong of " + text, 0, x.wrong());
        Checks.same("places taken at the end of " + text, 0, x.told(5));
        return x;
    }

    private static final String HELP = "fn zero(): int { } fn none(): text { } fn say(t: text, n: int): int { print t;"
        + " return n; } fn give(t: text): text { print t; return t; } fn swap(a: int, b: int): int { let c = a; a = b;"
        + " b = c; return a * 10 + b; } ";

    /** What print tells of an E. */
    private static void tells(String due, String e) {
        String text = HELP + "fn main(): int { let min = -2147483647 - 1; let t = \"abcabd\"; print " + e + "; }";
        Checks.same(e, due, Checks.toldText(ran(text)));
    }

    private static void numbers() {
        tells("7", "1 + 2 * 3");
        tells("9", "(1 + 2) * 3");
        tells("-4", "1 - 2 - 3");
        tells("2", "1 - (2 - 3)");
        tells("3", "7 / 2");
        tells("-3", "-7 / 2");
        tells("-3", "7 / -2");
        tells("3", "-7 / -2");
        tells("1", "7 % 2");
        tells("-1", "-7 % 2");
        tells("1", "7 % -2");
        tells("-1", "-7 % -2");
        tells("1", "100 / 10 / 10");
        tells("20", "7 / 3 * 10");
        tells("-2147483648", "2147483647 + 1");
        tells("2147483647", "min - 1");
        tells("-2147483648", "-min");
        tells("-2147483648", "min / -1");
        tells("0", "min % -1");
        tells("1", "2147483647 * 2147483647");
        tells("-2147483648", "min * -1");
        tells("0", "0");
        tells("-1", "- - - 1");
        tells("1", "!0");
        tells("0", "!1");
        tells("0", "!-5");
        tells("1", "!!7");
        tells("2", "!0 + 1");
        tells("1", "-1 + 2");
        tells("21", "swap(1, 2)");
    }

    private static void settled() {
        tells("1", "2 and 3");
        tells("0", "2 and 0");
        tells("0", "0 and 1 / 0");
        tells("1", "5 or 1 / 0");
        tells("1", "0 or 7");
        tells("0", "0 or 0");
        tells("1", "0 and 1 / 0 or 9");
        tells("1", "1 or 0 and 1 / 0");
        tells("a1", "say(\"a\", 1) or say(\"b\", 1)");
        tells("ab1", "say(\"a\", 0) or say(\"b\", 2)");
        tells("ab0", "say(\"a\", 2) and say(\"b\", 0)");
        tells("a0", "say(\"a\", 0) and say(\"b\", 1)");
        tells("ac1", "say(\"a\", 0) and say(\"b\", 1) or say(\"c\", 4)");
        tells("abc1", "say(\"a\", 1) and say(\"b\", 1) and say(\"c\", 1)");
        tells("ab111", "say(\"a\", 1) + say(\"b\", 10) * 11");
    }

    private static void compared() {
        tells("1", "1 == 1");
        tells("0", "1 == 2");
        tells("1", "1 != 2");
        tells("0", "2 != 2");
        tells("1", "min < 0");
        tells("1", "min < 2147483647");
        tells("0", "1 < 1");
        tells("1", "1 <= 1");
        tells("0", "2 <= 1");
        tells("1", "\"a\" < \"b\"");
        tells("1", "\"a\" < \"aa\"");
        tells("0", "\"aa\" < \"a\"");
        tells("0", "\"b\" < \"aa\"");
        tells("1", "\"\" < \"a\"");
        tells("0", "\"\" < \"\"");
        tells("1", "\"\" <= \"\"");
        tells("1", "\"\" == \"\"");
        tells("1", "t[0 : 2] == t[3 : 5]");
        tells("1", "t[0 : 3] != t[3 : 6]");
        tells("1", "t[0 : 3] < t[3 : 6]");
        tells("1", "\"ab\" & \"c\" == t[0 : 3]");
        // bytes are 0 .. 255
        tells("1", "\"z\" < sign(200)");
        tells("1", "sign(127) < sign(128)");
        tells("1", "sign(0) < sign(255)");
        tells("0", "sign(-1) <= sign(1)");
        tells("1", "(1 < 2) == (3 < 4)");
    }

    private static void texts() {
        tells("abcabd", "t");
        tells("", "\"\"");
        tells("ab", "\"a\" & \"b\"");
        tells("abc", "\"a\" & (\"b\" & \"c\")");
        tells("97", "t[0]");
        tells("100", "t[5]");
        tells("-1", "t[6]");
        tells("-1", "t[-1]");
        tells("-1", "t[min]");
        tells("-1", "t[2147483647]");
        tells("-1", "\"\"[0]");
        tells("200", "sign(200)[0]");
        tells("255", "sign(-1)[0]");
        tells("0", "sign(256)[0]");
        tells("1", "sign(257)[0]");
        tells("bca", "t[1 : 4]");
        tells("abcabd", "t[0 : 6]");
        tells("abcabd", "t[-5 : 60]");
        tells("abcabd", "t[min : 2147483647]");
        tells("", "t[2147483647 : min]");
        tells("", "t[3 : 3]");
        tells("", "t[4 : 3]");
        tells("", "t[6 : 9]");
        tells("d", "t[5 : 9]");
        tells("a", "t[-3 : 1]");
        tells("", "t[-3 : -1]");
        tells("ca", "t[1 : 5][1 : 3]");
        tells("99", "t[1 : 5][1]");
        tells("6", "len(t)");
        tells("0", "len(\"\")");
        tells("2", "len(t[1 : 3])");
        tells("5", "len(\"ab\" & digits(100))");
    }

    private static void found() {
        tells("0", "find(t, \"ab\")");
        tells("3", "find(t, \"abd\")");
        tells("5", "find(t, \"d\")");
        tells("-1", "find(t, \"abe\")");
        tells("0", "find(t, \"\")");
        tells("0", "find(\"\", \"\")");
        tells("-1", "find(\"\", \"a\")");
        tells("-1", "find(\"a\", \"aa\")");
        tells("0", "find(t, t)");
        tells("1", "find(\"aab\", \"ab\")");
        tells("2", "find(\"aaab\", \"ab\")");
        tells("1", "find(t[1 : 6], \"ca\")");
        tells("-1", "find(t[0 : 5], \"d\")");
        tells("0", "find(sign(250) & \"a\", sign(250))");
    }

    private static void made() {
        tells("0", "digits(0)");
        tells("-7", "digits(-7)");
        tells("2147483647", "digits(2147483647)");
        tells("-2147483648", "digits(min)");
        tells("11", "len(digits(min))");
        tells("1", "len(digits(0))");
        tells("10", "digits(1) & digits(0)");
        tells("A", "sign(65)");
        tells("\n", "sign(10)");
        tells("" + (char) 0, "sign(0)");
        tells("" + (char) 255, "sign(255)");
        tells("" + (char) 44, "sign(300)");
        tells("1", "len(sign(0))");
        tells("0", "zero()");
        tells("", "none()");
        tells("aa", "give(\"a\")");
        tells("abab", "give(\"a\") & give(\"b\")");
    }

    private static void main(String due, int returned, int steps, String inside) {
        QuillEngine x = ran("fn main(): int { " + inside + " }");
        Checks.same(inside, due, Checks.toldText(x));
        Checks.same("returned by " + inside, returned, x.told(0));
        Checks.same("steps of " + inside, steps, x.told(2));
    }

    private static void statements() {
        main("", 0, 1, "");
        main("", 7, 2, "return 7;");
        main("1", 7, 3, "print 1; return 7; print 2;");
        main("12", -3, 5, "let a = 1; print a; print a + 1; return -3;");
        main("1", 0, 3, "if 5 { print 1; } else { print 2; }");
        main("1", 0, 3, "if -5 { print 1; }");
        main("2", 0, 3, "if 0 { print 1; } else { print 2; }");
        main("", 0, 2, "if 0 { print 1; }");
        main("", 0, 2, "while 0 { print 1; }");
        main("012", 0, 12, "let k = 0; while k < 3 { print k; k = k + 1; }");
        main("0", 4, 6, "let k = 0; while 1 { print k; return 4; }");
        main("ab", 0, 3, "print \"a\"; print \"b\";");
        main("2", 0, 5, "let a = 1; a = 2; let b = a; print b;");
        main("xy", 0, 4, "let a = \"x\"; a = a & \"y\"; print a;");
        // each round has its own locals
        main("000", 0, 18, "let k = 0; while k < 3 { let a = 0; print a; a = 1; k = k + 1; }");
        main("", 3, 5, "if 1 { if 1 { let a = 3; return a; } } return 4;");
        main("", 9, 9, "let k = 0; while k < 3 { if k == 1 { return 9; } k = k + 1; }");
    }

    private static void functions() {
        QuillEngine x = ran("fn fact(n: int): int { if n <= 1 { return 1; } return n * fact(n - 1); }"
            + " fn main(): int { return fact(10); }");
        Checks.same("fact(10)", 3628800, x.told(0));
        Checks.same("steps of fact(10)", 2 + 10 * 3, x.told(2));
        x = ran("fn f(a: int, b: text, c: int, d: text, e: int, g: text): text { return b & digits(a) & d & digits(c)"
            + " & g & digits(e); } fn main(): int { print f(1, \"x\", 2, \"y\", 3, \"z\"); }");
        Checks.same("six parameters", "x1y2z3", Checks.toldText(x));
        x = ran("fn f(a: int): int { a = a + 1; return a; } fn main(): int { let a = 1; do f(a); return a * 10 + f(a); }");
        Checks.same("a parameter is the function's own", 12, x.told(0));
        x = ran("fn f(t: text): text { t = t & \"!\"; return t; } fn main(): int { let t = \"a\" & \"b\"; print f(t);"
            + " print t; }");
        Checks.same("a text handed over stays", "ab!ab", Checks.toldText(x));
        x = ran("fn even(n: int): int { if n == 0 { return 1; } return odd(n - 1); } fn odd(n: int): int {"
            + " if n == 0 { return 0; } return even(n - 1); } fn main(): int { return even(9) * 10 + even(8); }");
        Checks.same("one another", 1, x.told(0));
    }

    /** A run leaves nothing to the next one of the same program. */
    private static void again() {
        QuillEngine x = Checks.right("fn main(): int { let t = \"a\" & \"b\"; print t; do 1 / (len(t) - 2); }");
        for (int i = 0; i < 5; i++) {
            Checks.same("run", 1, x.run(10, 1));
            Checks.same("told", "ab", Checks.toldText(x));
            Checks.same("steps", 4, x.told(2));
            Checks.same("made", 1, x.told(3));
            Checks.same("most", 3, x.told(4));
            Checks.same("taken", 3, x.told(5));
            Checks.same("run in less", 2, x.run(2, 1));
            Checks.same("told", "", Checks.toldText(x));
            Checks.same("steps", 2, x.told(2));
            Checks.same("made", 0, x.told(3));
            Checks.same("most", 0, x.told(4));
            Checks.same("taken", 0, x.told(5));
        }
    }

    /** Neither many runs that end at once nor many programs fill anything up. */
    private static void often() {
        String f = "fn f(a: text, b: text, n: int): int { let c = a & b; let d = c & c; return f(d, c, n / (n - 1) + n); }"
            + " fn main(): int { return f(\"a\", \"b\", ";
        for (int n = 0; n < 4; n++) {
            String text = f + n + "); }";
            QuillEngine x = Checks.right(text);
            Model model = new Model(text);
            for (int i = 0; i < 100; i++) {
                int heap = i * 37;
                int deep = 1 + i % 12;
                Checks.same("run(" + heap + ", " + deep + ") of " + text, model.run(heap, deep), x.run(heap, deep));
                Checks.same("taken", model.told[5], x.told(5));
            }
        }
        QuillEngine x = new QuillEngine();
        String text = "fn main(): int { " + "do 1 + 1 + 1;".repeat(200) + " return ";
        for (int i = 0; i < 20; i++) {
            Checks.feed(x, text + i + "; }");
            Checks.same("read", 0, x.read());
            Checks.same("run", 0, x.run(0, 1));
            Checks.same("returned", i, x.told(0));
        }
    }

    public static void main(String[] args) {
        numbers();
        settled();
        compared();
        texts();
        found();
        made();
        statements();
        functions();
        again();
        often();
        Checks.end("RunTest");
    }
}
