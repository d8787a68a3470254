/** Promises 5, 6, 8 and 9: THE HEAP, where blocks are made, what is LIVE, and when they are free again. */
final class HeapTest {
    private HeapTest() {
    }

    /** Each run ends with a division by 0, so that whose shows the heap as it stood there: . is nobody's. */
    private static void shows(String due, int heap, String functions, String inside) {
        QuillEngine x = Checks.right(functions + " fn main(): int { " + inside + " do 1 / 0; }");
        String what = inside + " in " + heap;
        Checks.same("run of " + what, 1, x.run(heap, 12));
        Checks.same("heap of " + what, due, map(x, heap));
        same(what, x, heap, due);
    }

    private static void shows(String due, String inside) {
        shows(due, due.length(), "", inside);
    }

    private static String map(QuillEngine x, int heap) {
        StringBuilder map = new StringBuilder();
        for (int k = 0; k < heap; k++) {
            int owner = x.whose(k);
            map.append(owner < 0 ? "." : String.valueOf((char) ('0' + owner)));
        }
        return map.toString();
    }

    private static void same(String what, QuillEngine x, int heap, String map) {
        int taken = 0;
        int pieces = 0;
        int longest = 0;
        for (String piece : map.split("[^.]+")) {
            pieces += piece.isEmpty() ? 0 : 1;
            longest = Math.max(longest, piece.length());
        }
        for (int k = 0; k < heap; k++) {
            taken += map.charAt(k) == '.' ? 0 : 1;
        }
        Checks.same("places taken by " + what, taken, x.told(5));
        Checks.same("pieces of " + what, pieces, x.told(6));
        Checks.same("longest piece of " + what, longest, x.told(7));
        Checks.same("wrong of " + what, 0, x.wrong());
    }

    /** How a run of main ends, and blocks made, the most places taken and those taken at the end. */
    private static void counts(int ends, int made, int most, int taken, int heap, String text) {
        QuillEngine x = Checks.right(text);
        String what = text + " in " + heap;
        Checks.same("run of " + what, ends, x.run(heap, 12));
        Checks.same("blocks made by " + what, made, x.told(3));
        Checks.same("most places taken by " + what, most, x.told(4));
        Checks.same("places taken at the end of " + what, taken, x.told(5));
        Checks.same("wrong of " + what, 0, x.wrong());
    }

    private static void counts(int made, int most, String inside) {
        counts(0, made, most, 0, 4000, "fn main(): int { " + inside + " }");
    }

    private static void blocks() {
        shows("....", "");
        shows("000.", "let t = \"a\" & \"b\";");
        shows("00..", "let t = sign(65);");
        shows("0000.", "let t = digits(-12);");
        shows("0000011", "let t = \"ab\" & \"cd\"; let u = sign(1);");
        shows("000000000000", "let t = digits(-2147483647 - 1);");
        // QUOTES, & with an empty one, an empty part: no block
        shows("..", "let t = \"ab\"; let u = t & \"\"; let v = \"\" & t; let w = \"\" & \"\"; let x = t[0 : 1];");
        shows("000", "let t = \"a\" & \"b\"; let u = t & \"\"; let v = \"\" & t; let w = t[0 : 2];");
        // made again where it was, in the lowest places that are enough
        shows("11..", "let t = sign(1); t = \"\"; let u = sign(2);");
        shows("..11", "let t = sign(1); t = sign(2);");
        shows("2211", "let t = sign(1); t = sign(2); let u = sign(3);");
        shows("..111222", "let a = sign(1); let b = \"a\" & \"b\"; a = \"\"; let c = \"c\" & \"d\";");
        shows("33111222", "let a = sign(1); let b = \"a\" & \"b\"; a = \"\"; let c = \"c\" & \"d\"; let d = sign(1);");
        shows("33.22", "do sign(9); let b = \"a\" & \"b\"; let c = sign(3); b = \"\"; let d = sign(4);");
    }

    private static void sharing() {
        shows("00000", "let t = \"ab\" & \"cd\"; let u = t[1 : 2]; t = \"\";");
        shows(".....", "let t = \"ab\" & \"cd\"; let u = t[1 : 2]; t = \"\"; u = \"x\";");
        shows(".....", "let t = \"ab\" & \"cd\"; let u = t[2 : 2]; t = \"\";");
        shows("00000", "let t = (\"ab\" & \"cd\")[1 : 2];");
        shows("00000", "let t = (\"ab\" & \"cd\")[1 : 3][1 : 2];");
        shows("....", "let t = \"abcd\"[1 : 3];");
        shows("00000", "let t = \"ab\" & \"cd\"; let u = t[0 : 1]; let v = u; t = \"\"; u = \"\";");
        shows("000..", "let t = \"a\" & \"b\"; t = t;");
        shows("000..", "let t = \"a\" & \"b\"; t = t[1 : 2];");
        shows(".....", "let t = \"a\" & \"b\"; t = t[1 : 1];");
    }

    private static void scopes() {
        shows("....", "if 1 { let t = sign(1); }");
        shows("....", "if 0 { } else { let t = sign(1); }");
        shows("....", "let k = 0; while k < 3 { let t = sign(1); k = k + 1; }");
        shows("22", "let u = \"\"; let k = 0; while k < 3 { u = \"\"; let t = sign(1); u = t; k = k + 1; }");
        shows("00..", "let u = \"\"; if 1 { let t = sign(1); u = t; }");
        shows("....", "do sign(1); print sign(2); do len(sign(3)); if len(sign(4)) { }");
        shows("....", 4, "fn f(t: text): int { let u = t & t; }", "do f(\"a\"[0 : 0]); do f(sign(3)[0 : 0]);");
        shows("........", 8, "fn f(t: text): int { let u = t & \"b\"; }", "do f(sign(1));");
        shows("00......", 8, "fn f(t: text): text { let u = t & \"b\"; return t; }", "let t = f(sign(1));");
        shows("..111...", 8, "fn f(t: text): text { let u = t & \"b\"; return u; }", "let t = f(sign(1));");
        shows("..111...", 8, "fn f(t: text): text { if 1 { while 1 { let u = t & \"b\"; return u[1 : 2]; } } }",
            "let t = f(sign(1));");
        shows("00......", 8, "fn f(t: text): text { return t; }", "let t = f(f(f(sign(1))));");
        shows("........", 8, "fn f(t: text): text { }", "let t = f(sign(1));");
        shows("00......", 8, "fn f(t: text): text { let u = t; t = \"\"; return u; }", "let t = f(sign(1));");
        // a return leaves all BLOCKS of its function at once
        shows("........", 8, "fn f(): int { let a = sign(1); if 1 { let b = sign(2); while 1 { let c = sign(3);"
            + " return 1; } } }", "do f();");
    }

    /** What parts came to is LIVE while the next ones are worked out, till the whole is. */
    private static void parts() {
        counts(1, 3, "do \"a\" & \"b\";");
        counts(2, 7, "do \"a\" & \"b\" & \"c\";");
        // "ab" goes as "abc" is made; with "abcd" there are 4 + 5
        counts(3, 9, "do \"a\" & \"b\" & \"c\" & \"d\";");
        counts(3, 11, "do (\"a\" & \"b\") & (\"c\" & \"d\");");
        counts(2, 4, "do sign(1) == sign(2);");
        counts(2, 4, "do find(sign(1), sign(2));");
        counts(2, 2, "do len(sign(1)) + len(sign(2));");
        counts(2, 4, "do sign(1)[len(sign(2))];");
        counts(3, 4, "do sign(1)[len(sign(2)) : len(sign(3))];");
        counts(2, 2, "do len(sign(1)) and len(sign(2));");
        counts(1, 2, "do len(sign(1)) or len(sign(2));");
        // the old value of a NAME while its new one is worked out
        counts(2, 4, "let t = sign(1); t = sign(2);");
        counts(2, 5, "let t = sign(1); t = t & \"a\";");
        counts(2, 2, "let t = sign(1); t = \"\"; t = sign(2);");
        counts(4, 8, "let t = sign(1); t = t & \"a\"; t = \"\"; let u = \"ab\" & \"c\"; u = digits(123);");
    }

    private static void handed() {
        String f = "fn f(a: text, b: text): int { ";
        counts(0, 2, 4, 0, 4000, f + "} fn main(): int { do f(sign(1), sign(2)); }");
        // a PARAMETER that is given another value lets the one handed over go
        counts(0, 3, 4, 0, 4000, f + "a = \"\"; a = sign(3); } fn main(): int { do f(sign(1), sign(2)); }");
        counts(0, 3, 6, 0, 4000, f + "a = sign(3); } fn main(): int { do f(sign(1), sign(2)); }");
        // but not what a local of the caller still has
        counts(0, 3, 6, 0, 4000, f + "a = \"\"; a = sign(3); } fn main(): int { let t = sign(1); do f(t, sign(2)); }");
        // the parts ahead of a call are LIVE while it is under way
        counts(0, 2, 4, 0, 4000, "fn f(): int { do sign(1); } fn main(): int { do sign(2)[f()]; }");
        counts(0, 3, 7, 0, 4000, "fn f(): text { return sign(1); } fn main(): int { do sign(2) & f(); }");
        counts(0, 3, 6, 0, 4000, "fn f(t: text): text { return sign(1); }"
            + " fn main(): int { do sign(2) == f(sign(3)); }");
    }

    /** END 2: only if no free places side by side are enough. */
    private static void room() {
        String ab = "fn main(): int { let t = \"a\" & \"b\"; return len(t); }";
        counts(2, 0, 0, 0, 0, ab);
        counts(2, 0, 0, 0, 2, ab);
        counts(0, 1, 3, 0, 3, ab);
        String grows = "fn main(): int { let t = \"a\"; while 1 { t = t & \"b\"; } }";
        // n + 1 and n + 2 places at once: 3, then 4, 5, ..
        counts(2, 1, 3, 3, 6, grows);
        counts(2, 2, 7, 4, 7, grows);
        counts(2, 2, 7, 4, 11, grows);
        // 3 .. 6, 4 places free ahead and none of 5 behind
        QuillEngine x = Checks.right("fn main(): int { let a = \"ab\" & \"c\"; let b = sign(1); let c = \"ab\" & \"c\";"
            + " let d = sign(2); a = \"\"; c = \"\"; print 1; let e = \"abc\" & \"d\"; }");
        Checks.same("pieces of 4, 4 and 1, but 5 are due", 2, x.run(13, 1));
        Checks.same("told", "1", Checks.toldText(x));
        Checks.same("heap", "....11....33.", map(x, 13));
        Checks.same("taken", 4, x.told(5));
        Checks.same("pieces", 3, x.told(6));
        Checks.same("longest", 4, x.told(7));
        Checks.same("made", 4, x.told(3));
        Checks.same("most", 12, x.told(4));
        Checks.same("behind the last there are 5", 0, x.run(17, 1));
        Checks.same("made", 5, x.told(3));
        Checks.same("taken", 0, x.told(5));
        Checks.same("pieces", 1, x.told(6));
        Checks.same("longest", 17, x.told(7));
        // digits and sign, too
        counts(2, 0, 0, 0, 1, "fn main(): int { do sign(1); }");
        counts(0, 1, 2, 0, 2, "fn main(): int { do sign(1); }");
        counts(2, 0, 0, 0, 3, "fn main(): int { do digits(-12); }");
        counts(0, 1, 4, 0, 4, "fn main(): int { do digits(-12); }");
        // print of an int needs none
        counts(0, 0, 0, 0, 0, "fn main(): int { print -12; print \"abc\"; print \"abc\"[1 : 2]; do \"\" & \"a\"; }");
    }

    /** The greatest heap, filled by one text and by many. */
    private static void great() {
        String doubles = "fn main(): int { let t = \"" + "x".repeat(100) + "\"; let k = 0; while k < 4 { t = t & t;"
            + " k = k + 1; } let u = t[0 : 999]; t = \"\"; let w = u & u[0 : 1000]; print len(w); u = \"\"; w = w; }";
        // 200 at 0, 400 at 201, 800 at 602, 1600 at 1403 .. 3003: ahead of it 1403 are free, behind it 996
        counts(2, 4, 2402, 1601, 4000, doubles);
        counts(2, 4, 2402, 1601, 3004, doubles);
        counts(2, 3, 1202, 801, 3003, doubles);
        counts(0, 1, 4, 0, 4000, "fn main(): int { let t = \"aa\" & \"a\"; let u = t[0 : 1]; let v = t[1 : 3]; t = u; }");
        StringBuilder many = new StringBuilder("fn f(n: int): int { ");
        for (int i = 0; i < 29; i++) {
            many.append("let v").append(i).append(" = sign(").append(i).append("); ");
        }
        many.append("if n == 0 { return 1 / 0; } return f(n - 1); } fn main(): int { return f(10); }");
        QuillEngine x = Checks.right(many.toString());
        Checks.same("run", 1, x.run(4000, 12));
        Checks.same("made", 319, x.told(3));
        Checks.same("taken", 638, x.told(5));
        Checks.same("whose(637)", 318, x.whose(637));
        Checks.same("whose(638)", -1, x.whose(638));
        Checks.same("wrong", 0, x.wrong());
        Checks.same("run in 637", 2, x.run(637, 12));
        Checks.same("run in 638", 1, x.run(638, 12));
    }

    /** ENDS 1 to 5 leave all as it stood. */
    private static void stands() {
        String f = "fn f(t: text, u: text): int { let w = t & u; ";
        counts(1, 3, 7, 7, 100, f + "do 1 / 0; } fn main(): int { do f(sign(1), sign(2)); }");
        counts(1, 3, 7, 7, 100, f + "do 1 % 0; } fn main(): int { do f(sign(1), sign(2)); }");
        counts(2, 3, 7, 7, 7, f + "do sign(4); } fn main(): int { do f(sign(1), sign(2)); }");
        // main and eleven f are under way, each with two made for the next one
        counts(3, 24, 48, 48, 100, "fn f(a: text, b: text): int { return f(sign(1), sign(2)); }"
            + " fn main(): int { do sign(1) == sign(f(\"\", sign(5))); }");
        counts(4, 3, 7, 7, 100, f + "while 1 { } } fn main(): int { do f(sign(1), sign(2)); }");
        counts(5, 3, 7, 7, 100, f + "while 1 { print t; } } fn main(): int { do f(sign(1), sign(2)); }");
        // parts of the E that is under way are LIVE, too
        counts(1, 1, 2, 2, 100, "fn main(): int { do sign(1)[1 / 0]; }");
        counts(2, 1, 2, 2, 3, "fn main(): int { do sign(1) & sign(2); }");
        counts(2, 2, 4, 4, 6, "fn main(): int { do sign(1) & sign(2); }");
        counts(5, 2, 103, 101, 200, "fn main(): int { let t = sign(1) & \"" + "x".repeat(99)
            + "\"; while 1 { print t & \"\"; } }");
        // the one that print would tell too much of is LIVE till print is done
        counts(5, 21, 101, 101, 4000, "fn main(): int { while 1 { print \"a\" & \"" + "x".repeat(99) + "\"; } }");
    }

    public static void main(String[] args) {
        blocks();
        sharing();
        scopes();
        parts();
        handed();
        room();
        great();
        stands();
        Checks.end("HeapTest");
    }
}
