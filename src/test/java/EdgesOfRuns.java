/** Promises 5 to 7, Terms 2: each sentence on what an E and an S come to, at its edges. */
final class EdgesOfRuns {
    private static final String MIN = "(-2147483647 - 1)";
    private static final String HELP = "fn say(t: text, n: int): int { print t; return n; } "
        + "fn give(t: text): text { print t; return t; } ";

    private EdgesOfRuns() {
    }

    static void all() {
        ints();
        order();
        settled();
        compared();
        bytesOfTexts();
        partsOfTexts();
        lenAndFind();
        digitsAndSign();
        print();
        noReturn();
    }

    private static void prints(String due, String e) {
        Edges.prints(due, e);
    }

    private static void says(String due, String e) {
        Checks.same("told by " + e, due, Checks.toldText(Edges.run(0, 4000, 12, HELP + Edges.main("print " + e
            + ";"))));
    }

    private static void ints() {
        Sentences.of("RUN. ints wrap;");
        prints("-2147483648", "2147483647 + 1");
        prints("-2", "2147483647 + 2147483647");
        prints("2147483647", MIN + " - 1");
        prints("0", MIN + " + " + MIN);
        prints("0", MIN + " - " + MIN);
        prints("-2147483648", "-" + MIN);
        prints("-2147483648", "0 - " + MIN);
        prints("-2147483648", MIN + " * -1");
        prints("1", "2147483647 * 2147483647");
        prints("0", "65536 * 65536");
        prints("-2147483648", "65536 * 32768");
        prints("2147483647", "2147483647 + 1 - 1");
        Sentences.of("/ is cut towards 0,");
        prints("3 -3 -3 3",
            "digits(7 / 2) & \" \" & digits(-7 / 2) & \" \" & digits(7 / -2) & \" \" & digits(-7 / -2)");
        prints("0 0 0", "digits(1 / 2) & \" \" & digits(-1 / 2) & \" \" & digits(0 / 5)");
        prints("7 -7", "digits(7 / 1) & \" \" & digits(7 / -1)");
        prints("-2147483648", MIN + " / -1");
        prints("-2147483648", MIN + " / 1");
        prints("2147483647", "-2147483647 / -1");
        prints("1", MIN + " / " + MIN);
        prints("0", "2147483647 / " + MIN);
        prints("-1", MIN + " / 2147483647");
        Sentences.of("% has the left one's sign.");
        prints("1 -1 1 -1",
            "digits(7 % 2) & \" \" & digits(-7 % 2) & \" \" & digits(7 % -2) & \" \" & digits(-7 % -2)");
        prints("0 0 0", "digits(6 % 3) & \" \" & digits(-6 % 3) & \" \" & digits(0 % 3)");
        prints("0 0", "digits(7 % 1) & \" \" & digits(-7 % -1)");
        prints("0", MIN + " % -1");
        prints("0", MIN + " % 1");
        prints("-1", MIN + " % 2147483647");
        prints("2147483647", "2147483647 % " + MIN);
    }

    private static void order() {
        Sentences.of("Parts from the left.");
        for (String sign : new String[] {"+", "-", "*", "/", "%", "==", "!=", "<", "<="}) {
            says("ab" + (sign.equals("+") ? 9 : sign.equals("-") ? 3 : sign.equals("*") ? 18 : sign.equals("/") ? 2
                : sign.equals("%") || sign.equals("==") || sign.charAt(0) == '<' ? 0 : 1), "say(\"a\", 6) " + sign
                    + " say(\"b\", 3)");
        }
        says("abab", "give(\"a\") & give(\"b\")");
        says("ab98", "give(\"ab\")[say(\"\", 1)]");
        says("xyza", "give(\"x\")[say(\"y\", 5) : say(\"z\", 1)] & \"a\"");
        says("ab-1", "find(give(\"a\"), give(\"b\"))");
        says("abc13", "say(\"a\", 1) + say(\"b\", 3) * say(\"c\", 4)");
        QuillEngine x = Edges.run(0, 0, 12, HELP + "fn f(a: int, b: int, c: int): int { return a - b - c; } "
            + Edges.main("return f(say(\"x\", 9), say(\"y\", 2), say(\"z\", 3));"));
        Checks.same("handed over", "xyz", Checks.toldText(x));
        Checks.same("handed over", 4, x.told(0));
        alone();
    }

    private static void settled() {
        Sentences.of("and, or: the right part only if the left one doesn't settle it; 1 or 0.");
        prints("0", "0 and 1 / 0");
        prints("1", "1 or 1 / 0");
        prints("1", MIN + " or 1 / 0");
        prints("1", "-1 or 1 / 0");
        Edges.run(1, 0, 1, Edges.main("do 1 and 1 / 0;"));
        Edges.run(1, 0, 1, Edges.main("do -1 and 1 / 0;"));
        Edges.run(1, 0, 1, Edges.main("do 0 or 1 / 0;"));
        prints("1 0 0 0",
            "digits(2 and 3) & \" \" & digits(2 and 0) & \" \" & digits(0 and 2) & \" \" & digits(0 and 0)");
        prints("1 1 1 0",
            "digits(2 or 3) & \" \" & digits(2 or 0) & \" \" & digits(0 or 2) & \" \" & digits(0 or 0)");
        prints("1 1", "digits(" + MIN + " and -1) & \" \" & digits(0 or " + MIN + ")");
        says("a1", "say(\"a\", 7) or say(\"b\", 0)");
        says("ab0", "say(\"a\", 7) and say(\"b\", 0)");
        says("a0", "say(\"a\", 0) and say(\"b\", 0) and say(\"c\", 1)");
        says("abc1", "say(\"a\", 0) or say(\"b\", 0) or say(\"c\", 2)");
        says("ac1", "say(\"a\", 0) and say(\"b\", 1) or say(\"c\", 2)");
        Sentences.of("! of 0 is 1, of others 0.");
        prints("1 0 0 0 0",
            "digits(!0) & \" \" & digits(!1) & \" \" & digits(!2) & \" \" & digits(!-1) & \" \" & digits(!" + MIN
            + ")");
        prints("0 1", "digits(!!0) & \" \" & digits(!!256)");
        prints("0", "!2147483647");
    }

    private static void compared() {
        Sentences.of("== != < <= tell 1 or 0;");
        String[] pairs = {"1", "1", "1", "2", "2", "1", MIN, "2147483647", "2147483647", MIN, "0", "-1", MIN, MIN};
        int[] orders = {0, -1, 1, -1, 1, 1, 0};
        for (int i = 0; i < orders.length; i++) {
            alike(pairs[2 * i], pairs[2 * i + 1], orders[i]);
        }
        Sentences.of("texts by their bytes (0 .. 255),");
        alike("sign(0)", "sign(255)", -1);
        alike("sign(127)", "sign(128)", -1);
        alike("sign(128)", "sign(127)", 1);
        alike("\"z\"", "sign(200)", -1);
        alike("sign(255)", "sign(255)", 0);
        alike("\"a\" & sign(128)", "\"a\" & sign(1)", 1);
        Sentences.of("the first that differs, or the shorter ahead.");
        alike("\"abz\"", "\"aca\"", -1);
        alike("\"ab\"", "\"ab\" & \"\"", 0);
        alike("\"ab\"", "\"a\" & \"b\"", 0);
        alike("\"\"", "\"\"", 0);
        alike("\"\"", "sign(0)", -1);
        alike("\"a\"", "\"a\" & sign(0)", -1);
        alike("\"b\"", "\"ab\"", 1);
        alike("\"a\"", "\"ab\"", -1);
        // what stands behind a part is none of its bytes
        alike("\"az\"[0 : 1]", "\"ab\"", -1);
        alike("\"ab\"", "\"az\"[0 : 1]", 1);
        alike("\"aa\"[0 : 1]", "\"ab\"[0 : 1]", 0);
        alike("(\"a\" & \"z\")[0 : 1]", "\"a\" & \"b\"", -1);
        alike("\"xabc\"[1 : 4]", "\"abcx\"[0 : 3]", 0);
        String long1 = "\"" + "a".repeat(100) + "\"";
        String long2 = "\"" + "a".repeat(99) + "b\"";
        alike(long1, long2, -1);
        alike(long1, long1 + "[0 : 99]", 1);
        alike(long2 + "[0 : 99]", long1 + "[1 : 100]", 0);
    }

    private static void alike(String left, String right, int order) {
        String told = "" + (order == 0 ? 1 : 0) + (order != 0 ? 1 : 0) + (order < 0 ? 1 : 0) + (order <= 0 ? 1 : 0);
        Edges.tells(told, "let l = " + left + "; let r = " + right
            + "; print l == r; print l != r; print l < r; print l <= r;");
    }

    private static void bytesOfTexts() {
        Sentences.of("Texts are rows of bytes.");
        StringBuilder all = new StringBuilder();
        for (int b = 0; b < 256; b++) {
            all.append((char) b);
        }
        Edges.tells(all.toString(),
            "let t = \"\"; let b = 0; while b < 256 { t = t & sign(b); b = b + 1; } print t;");
        Sentences.of("&: one behind the other.");
        prints("abcd", "\"ab\" & \"cd\"");
        prints("ab", "\"\" & \"ab\"");
        prints("ab", "\"ab\" & \"\"");
        prints("", "\"\" & \"\"");
        prints("bcab", "\"abc\"[1 : 3] & \"abc\"[0 : 2]");
        prints("abab", "(\"a\" & \"b\") & (\"a\" & \"b\")");
        Edges.tells("xyxyxyxy", "let t = \"xy\"; t = t & t; t = t & t; print t;");
        Sentences.of("t[i]: byte i as an int (0 .. 255), -1 if there is none.");
        Edges.tells("97 98 99 -1 -1 -1 -1 -1",
            "let t = \"abc\"; print t[0]; print \" \"; print t[1]; print \" \"; print t[2]; print \" \";"
            + " print t[3]; print \" \"; print t[-1]; print \" \"; print t[4]; print \" \"; print t[2147483647]; print \" \"; print t[" + MIN + "];");
        prints("-1", "\"\"[0]");
        prints("-1", "\"\"[-1]");
        prints("0", "sign(0)[0]");
        prints("127", "sign(127)[0]");
        prints("128", "sign(128)[0]");
        prints("255", "sign(255)[0]");
        prints("-1", "sign(255)[1]");
        // the bytes beside a part are none of its own
        Edges.tells("98-1-1", "let t = \"abc\"[1 : 2]; print t[0]; print t[1]; print t[-1];");
        Edges.tells("98-1-1", "let t = (\"a\" & \"bc\")[1 : 2]; print t[0]; print t[1]; print t[-1];");
    }

    private static void partsOfTexts() {
        Sentences.of("t[a : b]: the bytes from a on up to but not b,");
        String t = "\"abcdef\"";
        prints("abcdef", t + "[0 : 6]");
        prints("bcd", t + "[1 : 4]");
        prints("a", t + "[0 : 1]");
        prints("f", t + "[5 : 6]");
        prints("", t + "[0 : 0]");
        prints("", t + "[3 : 3]");
        prints("cd", t + "[1 : 5][1 : 3]");
        prints("f", t + "[1 : 6][1 : 5][1 : 4][1 : 3][1 : 2]");
        Sentences.of("a and b being held to 0 .. len(t);");
        prints("abcdef", t + "[-1 : 7]");
        prints("abcdef", t + "[" + MIN + " : 2147483647]");
        prints("abc", t + "[" + MIN + " : 3]");
        prints("def", t + "[3 : 2147483647]");
        prints("", t + "[6 : 7]");
        prints("", t + "[7 : 9]");
        prints("", t + "[-9 : 0]");
        prints("", t + "[-9 : -1]");
        prints("", "\"\"[-1 : 1]");
        prints("bc", t + "[1 : 3][-5 : 5]");
        prints("bc", t + "[1 : 3][0 : 2]");
        Sentences.of("none if b is below a.");
        prints("", t + "[1 : 0]");
        prints("", t + "[6 : 0]");
        prints("", t + "[2147483647 : " + MIN + "]");
        prints("", t + "[5 : -1]");
        prints("", t + "[9 : 3]");
        prints("0", "len(" + t + "[4 : 3])");
    }

    private static void lenAndFind() {
        Sentences.of("len: how many.");
        prints("0", "len(\"\")");
        prints("1", "len(\"a\")");
        prints("100", "len(\"" + "a".repeat(100) + "\")");
        prints("3", "len(\"abcdef\"[1 : 4])");
        prints("0", "len(\"abcdef\"[4 : 1])");
        Edges.tells("1600", "let t = \"" + "a".repeat(100)
            + "\"; let u = t & t & t & t & t & t & t & t; let v = u & u; print len(v);");
        Sentences.of("find(t, u): the least place at which u stands in t (0 for an empty one),");
        prints("0", "find(\"abcabd\", \"ab\")");
        prints("3", "find(\"abcabd\", \"abd\")");
        prints("5", "find(\"abcabd\", \"d\")");
        prints("0", "find(\"abcabd\", \"abcabd\")");
        prints("2", "find(\"aaab\", \"ab\")");
        prints("0", "find(\"aaaa\", \"aa\")");
        prints("0", "find(\"abc\", \"\")");
        prints("0", "find(\"\", \"\")");
        prints("1", "find(\"abcabd\"[2 : 6], \"ab\")");
        prints("0", "find(sign(200) & \"a\", sign(200))");
        prints("99", "find(\"" + "a".repeat(99) + "b\", \"b\")");
        Sentences.of("-1 without.");
        prints("-1", "find(\"abc\", \"d\")");
        prints("-1", "find(\"\", \"a\")");
        prints("-1", "find(\"a\", \"aa\")");
        prints("-1", "find(\"abc\", \"abcd\")");
        prints("-1", "find(\"abcabd\"[0 : 5], \"d\")");
        prints("-1", "find(\"abcabd\"[1 : 6], \"abc\")");
        prints("-1", "find(\"aaa\", \"ab\")");
        prints("-1", "find(\"a\", \"A\")");
    }

    private static void digitsAndSign() {
        Sentences.of("digits(n): n in decimal, - ahead of one below 0.");
        for (String n : new String[] {"0", "1", "9", "10", "99", "100", "1000000000", "2147483646", "2147483647"}) {
            prints(n, "digits(" + n + ")");
            prints("" + n.length(), "len(digits(" + n + "))");
            prints(n.equals("0") ? "0" : "-" + n, "digits(-" + n + ")");
        }
        prints("-2147483648", "digits(" + MIN + ")");
        prints("11", "len(digits(" + MIN + "))");
        prints("7-8", "digits(7) & digits(-8)");
        Sentences.of("sign(n): one byte, the lowest eight bits of n.");
        int[] numbers = {0, 1, 65, 127, 128, 255, 256, 257, 511, 512, 65535, 65536, 2147483647};
        for (int n : numbers) {
            prints("" + (n & 255), "sign(" + n + ")[0]");
            prints("" + (-n & 255), "sign(-" + n + ")[0]");
            prints("1", "len(sign(" + n + "))");
        }
        prints("0", "sign(" + MIN + ")[0]");
    }

    private static void print() {
        Sentences.of("print tells a text, or an int as digits tells it (without a block).");
        Edges.tells("", "print \"\";");
        Edges.tells("a", "print \"a\";");
        for (String n : new String[] {"0", "7", "-7", "2147483647", "-2147483647"}) {
            Edges.tells(n, "print " + n + ";");
        }
        Edges.tells("-2147483648", "print " + MIN + ";");
        QuillEngine x = Edges.run(0, 0, 1, Edges.main("print -12; print \"ab\"; print \"ab\"[1 : 2]; print 0;"));
        Checks.same("told in a heap without a place", "-12abb0", Checks.toldText(x));
        Checks.same("no block", 0, x.told(3));
        Edges.makes(1, 3, "print -12; print \"a\" & \"b\"; print 2147483647;");
    }

    private static void noReturn() {
        Sentences.of("A function without return at its end returns 0, or the empty text.");
        QuillEngine x = Edges.run(0, 0, 2,
            "fn f(n: int): int { if n { return 7; } } fn g(n: int): text { if n { return \"x\"; } let t = \"y\"; } "
            + Edges.main("print f(0); print f(1); print len(g(0)); print g(1); print g(0) == \"\"; let a = 5;"));
        Checks.same("told", "070x1", Checks.toldText(x));
        Checks.same("main returned", 0, x.told(0));
        Checks.same("main returned", 0, Edges.run(0, 0, 1, Edges.main("")).told(0));
        Checks.same("main returned", -3, Edges.run(0, 0, 1, Edges.main("return -3;")).told(0));
        Checks.same("main returned", Integer.MIN_VALUE, Edges.run(0, 0, 1, Edges.main("return " + MIN
            + ";")).told(0));
    }

    /** An E takes its own parts alone: those that were worked out ahead of it still stand, thousands of times. */
    private static void alone() {
        String[] ints = {"!0", "1", "-(-1)", "1", "\"abc\"[1]", "98", "\"abc\"[9]", "-1", "len(\"ab\")", "2",
            "find(\"ab\", \"b\")", "1",
            "(2 and 3)", "1", "(2 and 0)", "0", "(0 and 3)", "0", "(0 or 0)", "0", "(5 or 0)", "1", "(0 or 5)", "1",
            "(1 == 1)", "1",
            "(\"a\" < \"b\")", "1", "(7 / 2)", "3", "(7 % 2)", "1", "main2()", "9", "id(4)", "4"};
        for (int i = 0; i < ints.length; i += 2) {
            int n = Integer.parseInt(ints[i + 1]);
            String text = "fn main2(): int { return 9; } fn id(n: int): int { return n; } "
                + Edges.main("let k = 0; let s = 0; while k < 3000 { s = 1000 - 10 * (3 + "
                + ints[i] + "); k = k + 1; } return s;");
            Checks.same("1000 - 10 * (3 + " + ints[i] + ")", 1000 - 10 * (3 + n), Edges.run(0, 100, 12,
                text).told(0));
        }
        String[] texts = {"\"abc\"[2 : 1]", "", "\"abc\"[1 : 2]", "b", "(\"\" & \"\")", "", "(\"\" & \"x\")", "x",
            "(\"x\" & \"\")", "x", "(\"x\" & \"y\")", "xy",
            "digits(7)", "7", "sign(65)", "A", "none()", "", "id(\"q\")", "q"};
        for (int i = 0; i < texts.length; i += 2) {
            String text = "fn none(): text { } fn id(t: text): text { return t; } "
                + Edges.main("let k = 0; let s = \"\"; while k < 3000 { s = \"<\" & (\"(\" & "
                + texts[i] + ") & \">\"; k = k + 1; } print s;");
            Checks.same("of " + texts[i], "<(" + texts[i + 1] + ">", Checks.toldText(Edges.run(0, 100, 12, text)));
        }
    }
}
