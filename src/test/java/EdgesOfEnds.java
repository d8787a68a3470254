/** Promises 5 and 6, Terms 2: each sentence on STEPS and how a run ENDS,
    the last that is within and the first beyond. */
final class EdgesOfEnds {
    private static final String HELP = "fn f(): int { } fn g(n: int): int { return n; } ";

    private EdgesOfEnds() {
    }

    static void all() {
        stepsOfStatements();
        stepsOfRounds();
        stepsOfCalls();
        stepsOfFind();
        returned();
        byZero();
        noRoom();
        tooDeep();
        tooManySteps();
        toldTooMuch();
        firstThatComes();
        atOnce();
    }

    private static void stepsOfStatements() {
        Sentences.of("A STEP goes by as each S begins,");
        Edges.steps(0, "");
        Edges.steps(1, "do 1;");
        Edges.steps(1, "let a = 1;");
        Edges.steps(1, "print 1;");
        Edges.steps(1, "return 1;");
        Edges.steps(2, "let a = 1; a = 2;");
        Edges.steps(1, "if 0 { do 1; }");
        Edges.steps(1, "if 1 { }");
        Edges.steps(2, "if 1 { do 1; } else { do 2; do 3; }");
        Edges.steps(3, "if 0 { do 1; } else { do 2; do 3; }");
        Edges.steps(1, "return 1; do 2; do 3;");
        Edges.steps(300, "do 1;".repeat(300));
        // it went by as the S ends the run
        Checks.same("steps", 3, Edges.run(1, 0, 1, Edges.main("do 1; do 1 / 0; do 1;")).told(2));
    }

    private static void stepsOfRounds() {
        Sentences.of("as each round of a while begins (its E not being 0),");
        Edges.steps(1, "while 0 { }");
        Edges.steps(1, "while 0 { do 1; }");
        Edges.steps(5, "let k = 1; while k { k = k - 1; } do 1;");
        Edges.steps(2 + 2 * 10, "let k = 10; while k { k = k - 1; }");
        Edges.steps(2 + 2 * 10, "let k = -10; while k { k = k + 1; }");
        Edges.steps(3, "while 1 { return 1; }");
        Edges.steps(2 + 3 * (1 + 2 + 2 * 2 + 1),
            "let k = 3; while k { let l = 2; while l { l = l - 1; } k = k - 1; }");
        Checks.same("steps", 3, Edges.run(1, 0, 1, Edges.main("do 1; while 1 / 0 { }")).told(2));
    }

    private static void stepsOfCalls() {
        Sentences.of("and as a function is called (main, too;");
        Checks.same("steps of main", 1, Edges.run(0, 0, 1, Edges.main("")).told(2));
        Edges.steps(2, HELP, "do f();");
        Edges.steps(3, HELP, "do g(1);");
        Edges.steps(5, HELP, "do g(g(1));");
        Edges.steps(4, HELP, "do f() + f() + f();");
        Edges.steps(1, HELP, "do 0 and f();");
        Edges.steps(1, HELP, "do len(\"\") + len(digits(1)) + find(\"\", \"a\") + sign(1)[0];");
        Sentences.of("behind 3);");
        QuillEngine x = Edges.run(3, 0, 1, HELP + Edges.main("do f();"));
        Checks.same("a call that is too deep takes no STEP", 2, x.told(2));
        Edges.run(3, 0, 1, HELP + Edges.main(Edges.pass(19998) + "do f();"));
        x = Edges.run(4, 0, 2, HELP + Edges.main(Edges.pass(19998) + "do f();"));
        Checks.same("steps", 20000, x.told(2));
        Edges.run(0, 0, 2, HELP + Edges.main(Edges.pass(19997) + "do f();"));
    }

    private static void stepsOfFind() {
        Sentences.of("len(t) STEPS go by as find(t, u) is done, ahead of it.");
        Edges.steps(1, "do find(\"\", \"\");");
        Edges.steps(1, "do find(\"\", \"abc\");");
        Edges.steps(2, "do find(\"a\", \"\");");
        Edges.steps(2, "do find(\"a\", \"abc\");");
        Edges.steps(4, "do find(\"abc\", \"a\");");
        Edges.steps(4, "do find(\"abc\", \"x\");");
        Edges.steps(101, "do find(\"" + "a".repeat(100) + "\", \"a\");");
        Edges.steps(1 + 2 + 3, "do find(\"ab\", \"a\") + find(\"abc\", \"b\");");
        Edges.steps(3, "do find(\"abcdef\"[1 : 3], \"c\");");
        Edges.steps(1 + 2 + 1, "do find(\"ab\", digits(find(\"c\", \"d\")));");
        Edges.run(0, 0, 1, Edges.main(Edges.pass(19995) + "do find(\"abc\", \"a\");"));
        Edges.run(4, 0, 1, Edges.main(Edges.pass(19996) + "do find(\"abc\", \"a\");"));
        Checks.same("returned", 2, Edges.run(0, 0, 1, Edges.main(Edges.pass(19994)
            + "return find(\"abcd\", \"c\");")).told(0));
        Checks.same("steps", 20000, Edges.run(4, 0, 1, Edges.main(Edges.pass(19900) + "do find(\"" + "a".repeat(100)
            + "\", \"a\");")).told(2));
        Checks.same("an empty one takes none", 20000, Edges.run(0, 0, 1, Edges.main(Edges.pass(19998)
            + "do find(\"\", \"a\");")).told(2));
        // ahead of it: behind its parts
        Edges.run(1, 0, 1, Edges.main(Edges.pass(19998) + "do find(\"abc\", \"x\"[1 / 0 : 1]);"));
        Edges.run(2, 0, 1, Edges.main(Edges.pass(19998) + "do find(\"abc\", sign(1));"));
    }

    private static void returned() {
        Sentences.of("A run ENDS: 0 main returned.");
        QuillEngine x = Edges.run(0, 10, 1, Edges.main("let t = sign(1); print t; return 7; do 1 / 0;"));
        Checks.same("returned", 7, x.told(0));
        Checks.same("places", 0, x.told(5));
        Edges.run(0, 0, 1, Edges.main(""));
        Edges.run(0, 0, 2, "fn f(): int { return 5; } " + Edges.main("do f();"));
    }

    private static void byZero() {
        Sentences.of("1 / or % by 0.");
        Edges.run(1, 0, 1, Edges.main("do 1 / 0;"));
        Edges.run(1, 0, 1, Edges.main("do 1 % 0;"));
        Edges.run(1, 0, 1, Edges.main("do 0 / 0;"));
        Edges.run(1, 0, 1, Edges.main("do 0 % 0;"));
        Edges.run(1, 0, 1, Edges.main("do 1 / (1 - 1);"));
        Edges.run(1, 0, 1, Edges.main("do -2147483647 / -0;"));
        Edges.run(1, 0, 1, Edges.main("do 1 % (2147483647 + 2147483647 + 2);"));
        Edges.run(0, 0, 1, Edges.main("do 0 / 1; do 0 % 1; do 0 / -1; do 1 / 2; do 1 * 0;"));
    }

    private static void noRoom() {
        Sentences.of("2 no places side by side are enough.");
        String grows = Edges.main("let t = \"a\"; while 1 { t = t & \"b\"; }");
        int[] heaps = {0, 1, 2, 3, 6, 7, 8, 11, 12};
        int[] made = {0, 0, 0, 1, 1, 2, 2, 2, 4};
        for (int i = 0; i < heaps.length; i++) {
            Checks.same("made in " + heaps[i], made[i], Edges.run(2, heaps[i], 1, grows).told(3));
        }
        String holes = "let a = sign(1); let b = sign(2); let c = sign(3); let d = sign(4); a = \"\"; c = \"\"; ";
        Edges.run(2, 8, 1, Edges.main(holes + "let e = \"a\" & \"b\";"));
        Edges.run(2, 10, 1, Edges.main(holes + "let e = \"a\" & \"b\";"));
        Edges.run(0, 11, 1, Edges.main(holes + "let e = \"a\" & \"b\";"));
        Edges.run(0, 8, 1, Edges.main(holes + "let e = sign(5); let f = sign(6);"));
        Edges.run(2, 8, 1, Edges.main(holes + "let e = sign(5); let f = sign(6); let g = sign(7);"));
        Edges.run(0, 8, 1, Edges.main(holes + "b = \"\"; let e = digits(12345);"));
        Edges.run(2, 8, 1, Edges.main(holes + "b = \"\"; let e = digits(123456);"));
        // longer than the greatest heap
        Edges.run(2, 4000, 1, Edges.main("let t = \"" + "a".repeat(100) + "\"; while 1 { t = t & t; }"));
    }

    private static void tooDeep() {
        Sentences.of("3 a function is called with as many under way as told.");
        String f = "fn f(n: int): int { if n <= 1 { return 7; } return f(n - 1); } ";
        for (int deep = 1; deep <= 12; deep++) {
            if (deep > 1) {
                Checks.same("returned", 7, Edges.run(0, 0, deep, f + Edges.main("return f(" + (deep - 1)
                    + ");")).told(0));
            }
            QuillEngine x = Edges.run(3, 0, deep, f + Edges.main("return f(" + deep + ");"));
            Checks.same("steps", 2 + 3 * (deep - 1), x.told(2));
            Edges.run(3, 0, deep, Edges.main("return main();"));
        }
        // those that returned are not under way
        Edges.run(0, 0, 2, f + Edges.main("do f(1); do f(f(f(1) - 6) - 6) + f(1);"));
        Edges.run(3, 0, 2, f + Edges.main("do f(1); do f(2);"));
    }

    private static void tooManySteps() {
        Sentences.of("4 a STEP would be the 20001st (20000 went by then).");
        for (String s : new String[] {"do 1;", "let a = 1;", "print 1;", "return 1;", "if 1 { }", "while 0 { }"}) {
            Checks.same("steps", 20000, Edges.run(0, 0, 1, Edges.main(Edges.pass(19998) + s)).told(2));
            QuillEngine x = Edges.run(4, 0, 1, Edges.main(Edges.pass(19999) + s));
            Checks.same("steps", 20000, x.told(2));
            Checks.same("told", 0, x.told(1));
        }
        Checks.same("steps", 20000, Edges.run(4, 0, 1, Edges.main(Edges.pass(19998) + "while 1 { }")).told(2));
        Checks.same("steps", 20000, Edges.run(4, 0, 1, Edges.main("while 1 { }")).told(2));
        Checks.same("steps", 20000, Edges.run(4, 0, 1, Edges.main("while 1 { do 1; }")).told(2));
        Checks.same("steps", 20000, Edges.run(4, 0, 2, HELP + Edges.main("while 1 { do f(); }")).told(2));
        Checks.same("steps", 20000, Edges.run(4, 0, 1,
            Edges.main("while 1 { do find(\"abcdefg\", \"x\"); }")).told(2));
        Checks.same("steps", 20000, Edges.run(0, 0, 1, Edges.main(Edges.pass(19999))).told(2));
    }

    private static void toldTooMuch() {
        Sentences.of("5 print would tell more than 2000 bytes in all (none of these then).");
        String hundred = "\"" + "x".repeat(100) + "\"";
        String full = "let k = 0; while k < 20 { print " + hundred + "; k = k + 1; } ";
        for (String s : new String[] {"", "print \"\"; ", "print \"abc\"[3 : 3]; "}) {
            QuillEngine x = Edges.run(0, 0, 1, Edges.main(full + s));
            Checks.same("told", "x".repeat(2000), Checks.toldText(x));
        }
        for (String s : new String[] {"print \"a\"; ", "print 0; ", "print " + hundred + "; "}) {
            QuillEngine x = Edges.run(5, 0, 1, Edges.main(full + s + "return 3;"));
            Checks.same("told", "x".repeat(2000), Checks.toldText(x));
        }
        int[] ahead = {1999, 1999, 1999, 1999, 1990, 1990, 1989, 1901, 1901, 1900, 1900};
        String[] more = {"\"a\"", "7", "\"ab\"", "-7", "2147483647", "-2147483647", "-2147483647", hundred, hundred
            + "[1 : 100]", hundred, "\"\""};
        int[] bytes = {1, 1, 2, 2, 10, 11, 11, 100, 99, 100, 0};
        for (int i = 0; i < ahead.length; i++) {
            String s = full.replace("k < 20", "k < 19") + "print " + hundred + "[0 : " + (ahead[i] - 1900) + "]; ";
            boolean room = ahead[i] + bytes[i] <= 2000;
            QuillEngine x = Edges.run(room ? 0 : 5, 0, 1, Edges.main(s + "print " + more[i] + ";"));
            Checks.same("told", room ? ahead[i] + bytes[i] : ahead[i], x.told(1));
            Checks.same("letter of the last", room && bytes[i] > 0 ? 1 : 0, x.letter(ahead[i]) >= 0 ? 1 : 0);
        }
        String great = "let h = " + hundred + "; let a = h & h & h & h & h & h & h & h; let b = a & a; print b; ";
        Checks.same("told", 2000, Edges.run(0, 4000, 1, Edges.main(great + "print a[0 : 400];")).told(1));
        Checks.same("told", 1600, Edges.run(5, 4000, 1, Edges.main(great + "print a[0 : 401];")).told(1));
        Checks.same("told", 1600, Edges.run(5, 4000, 1, Edges.main(great + "print b;")).told(1));
    }

    private static void firstThatComes() {
        Sentences.of("(Of several in one act the first that comes.)");
        Edges.run(1, 0, 1, HELP + Edges.main("do g(1 / 0);"));
        String h = "fn h(t: text): int { } ";
        Edges.run(2, 1, 1, h + Edges.main("do h(sign(1));"));
        Edges.run(3, 2, 1, h + Edges.main("do h(sign(1));"));
        Edges.run(3, 0, 1, HELP + Edges.main("do f() / 0;"));
        Edges.run(1, 0, 2, HELP + Edges.main("do f() / 0;"));
        Edges.run(1, 0, 1, HELP + Edges.main("do 1 / 0 + f();"));
        Edges.run(1, 0, 1, Edges.main("do 1 / 0 + len(sign(1));"));
        Edges.run(2, 1, 1, Edges.main("do len(sign(1)) + 1 / 0;"));
        Edges.run(1, 2, 1, Edges.main("do len(sign(1)) + 1 / 0;"));
        Edges.run(2, 3, 1, Edges.main("do sign(1) == sign(2)[1 / 0 : 1];"));
        Edges.run(1, 4, 1, Edges.main("do sign(1) == sign(2)[1 / 0 : 1];"));
        Edges.run(3, 0, 1, HELP + Edges.main(Edges.pass(19998) + "do f();"));
        Edges.run(4, 0, 2, HELP + Edges.main(Edges.pass(19998) + "do f();"));
        Edges.run(1, 0, 1, HELP + Edges.main(Edges.pass(19998) + "do g(1 / 0);"));
        Edges.run(2, 1, 1, Edges.main(Edges.pass(19998) + "do find(sign(1), \"\");"));
        Edges.run(4, 2, 1, Edges.main(Edges.pass(19998) + "do find(sign(1), \"\");"));
        Edges.run(4, 0, 1, Edges.main(Edges.pass(19999) + "do 1 / 0;"));
        Edges.run(1, 0, 1, Edges.main(Edges.pass(19998) + "while 1 / 0 { }"));
        String full = "let k = 0; while k < 20 { print \"" + "x".repeat(100) + "\"; k = k + 1; } ";
        Edges.run(1, 0, 1, Edges.main(full + "print 1 / 0;"));
        Edges.run(2, 1, 1, Edges.main(full + "print sign(1);"));
        Edges.run(5, 2, 1, Edges.main(full + "print sign(1);"));
        Edges.run(5, 2, 1, Edges.main(full + "print 1; do 1 / 0;"));
    }

    private static void atOnce() {
        Sentences.of("With 1 to 5 it ends at once.");
        String told = "\"" + "y".repeat(100) + "\"";
        String[] acts = {"1 / 0", "len(sign(1))", "f(n)", "find(\"" + "z".repeat(100) + "\", \"\")"};
        int[] heaps = {10, 1, 10, 10};
        for (int i = 0; i < acts.length; i++) {
            String f = "fn f(n: int): int { "
                + (i == 2 ? "if n { return 1; } n = 1; " : i == 3 ? Edges.pass(19990) : "")
                + "print \"b\"; let t = \"\" & " + (i == 0 ? "sign(7)" : "\"\"") + "; do " + acts[i]
                + "; print \"c\"; t = \"\"; return 1 + n; } ";
            QuillEngine x = Edges.run(i + 1, heaps[i], 2, f
                + Edges.main("print \"a\"; let k = f(0); print \"d\"; return k;"));
            Checks.same("told till " + acts[i], "ab", Checks.toldText(x));
            Checks.same("places taken", i == 0 ? 2 : 0, x.told(5));
        }
        QuillEngine x = Edges.run(5, 10, 2, "fn f(): int { let t = sign(7); while 1 { print " + told
            + "; } t = \"\"; return 1; } "
            + Edges.main("print \"a\"; let k = f(); print \"d\"; return k;"));
        Checks.same("told", "a" + "y".repeat(1900), Checks.toldText(x));
        Checks.same("places taken", 2, x.told(5));
        Checks.same("steps", 1 + 2 + 1 + 2 + 2 * 20, x.told(2));
    }
}
