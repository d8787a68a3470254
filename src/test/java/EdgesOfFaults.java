/** Promises 3 and 4, Terms 1, FAULTS: the place of each, and which of several is told. */
final class EdgesOfFaults {
    private static final String MAIN = "fn main(): int { } ";
    private static final String HELP = "fn f(n: int): int { return n; } fn g(t: text): text { return t; } "
        + "fn h(n: int, t: text): int { } ";

    private EdgesOfFaults() {
    }

    static void all() {
        kinds();
        theText();
        beyondLimits();
        namesOfFunctions();
        namesInScope();
        namesRead();
        namesOfCalls();
        main();
        typesFirst();
        typesOfTexts();
        typesOfInts();
        typesAlike();
        typesGiven();
    }

    private static void kinds() {
        Sentences.of("FAULTS: the first of a kind, kind by kind.");
        Edges.fault(1, "fn f(): int { do a; do 1 & 2; } fn f(): int { } @#",
            "fn f(): int { return \"a\"; do a; } fn@");
        Edges.fault(2, "fn f(): int { do 1 & 2; return \"a\"; } fn main(): int { do @a; }",
            "fn f(): int { return \"a\"; }@");
        Edges.fault(3, "fn f(): int { do @1 & 2; return \"a\"; } fn main(): int { return \"b\"; }");
        Edges.fault(1, "fn main(): int { do 1 @2; do 3 4; do # }", "fn main(): int { do @#; do 3 4; }");
        Edges.fault(2, "fn main(): int { do @a; do b; do a; }");
    }

    private static void theText() {
        Sentences.of("1 THE TEXT: the first byte that can begin no word,");
        Edges.fault(1, "@#", " @# #", "@#fn main(): int { }", MAIN + "@#", "fn main@#(): int { }",
            "fn main(): int { do 1 + @A; }",
            "fn main(): int { do 1@\t; }", "fn main(): int { @" + (char) 0 + " }", "fn main(): int { @" + (char) 255
            + " }");
        Sentences.of("or word (its first byte, of QUOTES their first \";");
        Edges.fault(1, "fn @print(): int { }", "fn main(): int { let @while = 1; }", "fn main(): int { do 1 @abc; }",
            "fn main(): int { do 1 <= @= 1; }", "fn main(): int { do 1 @\"abc\"; }",
            "fn main(): int { do 1 @123; }", "fn @\"main\"(): int { }", "fn main(): int { @\"abc\" }",
            "fn main(): int { do @\"abc", "fn main(): int { do @\"" + "a".repeat(101) + "\"; }",
            "fn main(): int { do @\"a\n\"; }");
        Sentences.of("the length, if the text ends too soon)");
        Edges.fault(1, "@", "  @", "fn@", "fn  \n@", "fn main@", "fn main(@", "fn main()@", "fn main():@",
            "fn main(): int@",
            "fn main(): int {@", "fn main(): int {   @", "fn main(): int { let@", "fn main(): int { let a@",
            "fn main(): int { let a =@", "fn main(): int { let a = 1@", "fn main(): int { let a = 1;@",
            "fn main(): int { do f(@",
            "fn main(): int { do f(1,@", "fn main(): int { do \"a\"[1@", "fn main(): int { do (1 +@",
            "fn main(): int { if 1@",
            "fn main(): int { if 1 { } else@", "fn main(): int { } fn@", "fn main(): int { do \"a\" @");
        Sentences.of("that can't stand there,");
        Edges.fault(1, "@1", "fn main(): int { } @main", "fn main(): int { do 1 + @; }",
            "fn main(): int { return@; }",
            "fn main(): int { main@(); }", "fn main(): int { if @{ } }", "fn main(): int { do len@[1]; }",
            "fn main(): int { do 1 < 2 @< 3; }", "fn main(): int { } @}");
    }

    private static String twenty() {
        StringBuilder s = new StringBuilder();
        for (int i = 0; i < 20; i++) {
            s.append("fn f").append(i).append("(): int { } ");
        }
        return s.toString();
    }

    private static String thirty() {
        StringBuilder s = new StringBuilder();
        for (int i = 0; i < 30; i++) {
            s.append("let v").append(i).append(" = 1; ");
        }
        return s.toString();
    }

    private static void beyondLimits() {
        Sentences.of("or is one beyond a limit (the 3001st byte ahead of all;");
        Checks.faultAt(1, 3000, "#" + " ".repeat(3000));
        Checks.faultAt(1, 3000, twenty() + "fn fn fn" + " ".repeat(3000 - 8 - twenty().length()) + "}");
        Checks.faultAt(1, 3000, "fn main(): int { do a; do 1 + \"\"; do \"" + "a".repeat(3000));
        Checks.faultAt(1, 0, "#" + " ".repeat(2999));
        Sentences.of("fn; the NAME of a PARAMETER or let;");
        Edges.fault(1, twenty() + "@fn main(): int { }", twenty() + " @fn",
            "fn f(a: int, b: int, c: int, d: int, e: int, f: int, @g: int)",
            "fn f(a: int, b: int, c: int, d: int, e: int, f: int,@g");
        Edges.faultS(1, thirty() + "let @a = 1;", thirty() + "let   @a = 1;");
        Sentences.of("the word with which an S begins, also of one too deep;");
        for (String s : new String[] {"do 1;", "let a = 1;", "x = 1;", "if 1 { }", "while 0 { }", "return 1;",
            "print 1;"}) {
            Edges.faultS(1, "do 1;".repeat(300) + "  @" + s, "if 1 { ".repeat(8) + "  @" + s + "}".repeat(8));
        }
        Sentences.of("the ( or [;");
        Edges.faultS(1, "do " + "(".repeat(8) + " @(1" + ")".repeat(9) + ";", "do " + "(".repeat(8) + "f @(1)"
            + ")".repeat(8) + ";",
            "do " + "(".repeat(8) + "len @(\"\")" + ")".repeat(8) + ";", "do " + "(".repeat(8) + "\"\" @[1]"
            + ")".repeat(8) + ";");
        Sentences.of("the 41st SIGN, if both hold at one [ that too).");
        Edges.faultS(1, "do 1" + " + 1".repeat(40) + "  @* 1;", "do 1" + " + 1".repeat(40) + "  @<= 1;", "do 1"
            + " + 1".repeat(40) + "  @and 1;",
            "do " + "-".repeat(40) + "(".repeat(8) + "\"\"  @[1]" + ")".repeat(8) + ";",
            // the word of a call is the SIGN, and comes ahead of its (
            "do " + "-".repeat(40) + "(".repeat(8) + "@f(1)" + ")".repeat(8) + ";",
            "do " + "-".repeat(40) + "(".repeat(8) + "@len(\"\")" + ")".repeat(8) + ";",
            "do " + "-".repeat(39) + "(".repeat(8) + "f@(1)" + ")".repeat(8) + ";",
            "do " + "-".repeat(40) + "(".repeat(8) + "@(1)" + ")".repeat(8) + ";");
    }

    private static void namesOfFunctions() {
        Sentences.of("2 NAMES, the least place (each at its NAME):");
        Edges.fault(2, "fn f(): int { do @a; } fn f(): int { } " + MAIN, "fn f(): int { } fn @f(): int { do a; } "
            + MAIN,
            "fn f(): int { do @g(); } fn f(): int { do a; } " + MAIN, MAIN
            + "fn f(a: int, @a: int): int { let a = 1; do b; }",
            MAIN + "fn f(): int { do @g(a, b()); }", MAIN + "fn f(n: int): int { do f(@a); do f(); }",
            MAIN + "fn f(n: int): int { do @f(a, 1); }", MAIN + "fn f(): int { let a = @b; let a = 1; }");
        Sentences.of("of a FUNCTION that has the NAME of an earlier one;");
        Edges.fault(2, MAIN + "fn   @main(): int { }", "fn f(): int { } fn @f(): int { } " + MAIN,
            "fn f(a: int): int { } fn @f(): text { } " + MAIN,
            "fn f(): int { } fn g(): int { } fn @f(): int { } fn f(): int { } fn g(): int { } " + MAIN,
            "fn main(): text { } fn @main(): int { }");
        Edges.right("fn f(f: int): int { return f; } fn g(): int { let g = 1; let f = g; return f + f(g); } " + MAIN);
    }

    private static void namesInScope() {
        Sentences.of("of a PARAMETER or let with a NAME that is in scope in this function;");
        Edges.fault(2, "fn f(a: int, @a: int): int { } " + MAIN, "fn f(a: int, b: int, @a: text): int { } " + MAIN,
            "fn f(a: int): int { let @a = 1; } " + MAIN, "fn f(a: int): int { if 1 { while 0 { let @a = 1; } } } "
            + MAIN);
        Edges.faultS(2, "let a = 1; let   @a = 1;", "let a = 1; let @a = \"\";", "let a = 1; if 1 { let @a = 2; }",
            "let a = 1; if 1 { } else { let @a = 2; }", "let a = 1; while 1 { let @a = 2; }",
            "if 1 { let a = 1; let @a = 2; }",
            "let a = 1; if 1 { let b = 1; } let b = 1; let @a = 1;");
        Edges.right("fn f(a: int): int { let b = a; } fn g(a: text, b: text): text { } "
            + Edges.main("let a = 1; let b = 2;"));
        Edges.rightS("if 1 { let a = 1; } else { let a = \"\"; } let a = 1;",
            "while 0 { let a = 1; } while 0 { let a = 1; }",
            "if 1 { if 1 { let a = 1; } let a = 2; } let a = 3;");
    }

    private static void namesRead() {
        Sentences.of("of a NAME read or given a value that is no local in scope");
        Edges.faultS(2, "do @a;", "@a = 1;", "print @a;", "return @a;", "if @a { }", "while @a { }", "let b = @a;",
            "do @a[0];",
            "do \"\"[@a];", "do \"\"[0 : @a];", "do (@a);", "do -@a;", "do 1 + @a;", "do len(@a);",
            "do find(\"\", @a);",
            "do digits(@a);", "do sign(@a);", "do main() + @a;", "do @main;", "@main = 1;", "do 0 and @a;",
            "do 1 or @a;");
        Edges.fault(2, "fn f(a: int): int { let b = 1; } fn main(): int { return @a; }",
            "fn f(a: int): int { let b = 1; } fn main(): int { @b = 1; }",
            "fn f(): int { return @a; } fn main(): int { let a = 1; return f(); }");
        Sentences.of("(from behind its let's ; on,");
        Edges.faultS(2, "let a = @a;", "let a = 1 + @a;", "let a = main() + len(digits(@a));", "do @a; let a = 1;",
            "@a = 1; let a = 1;",
            "if 1 { do @a; } let a = 1;", "while @a { let a = 1; }");
        Edges.prints("5", "2 + 3");
        Edges.tells("11", "let a = 1;print a;let b=a;print b;");
        Sentences.of("to the end of its BLOCK;");
        Edges.faultS(2, "if 1 { let a = 1; } do @a;", "if 1 { let a = 1; } @a = 1;",
            "if 1 { let a = 1; } else { do @a; }",
            "while 0 { let a = 1; } do @a;", "if 1 { if 1 { let a = 1; } do @a; }",
            "if 1 { let a = 1; } if 1 { do @a; }");
        Edges.tells("123",
            "let a = 1; if 1 { print a; let b = 2; if 1 { print b; let c = 3; while c { print c; c = 0; } } }");
        Sentences.of("a PARAMETER in its function's);");
        Edges.fault(2, "fn f(a: int): int { } fn main(): int { do @a; }",
            "fn f(): int { do @a; } fn g(a: int): int { } " + MAIN,
            MAIN + "fn f(a: int): int { } fn g(b: int): int { return @a; }");
        Edges.right("fn f(a: int): int { if a { while a { return a; } } a = a; return a; } " + MAIN);
    }

    private static void namesOfCalls() {
        Sentences.of("of a call's NAME that is no FUNCTION (of those further on, too),");
        Edges.faultS(2, "do @f();", "do @f(1, 2);", "do 1 + @f(1);", "let f = 1; do @f();", "do main() + @mai();",
            "do @mainn();");
        Edges.right("fn main(): int { return f() + g(1); } fn f(): int { return g(f()); } fn g(n: int): int { return main(); }");
        Edges.fault(2, "fn f(): int { } fn main(): int { do f(); do @g(); do h(); } fn h(): int { }");
        Sentences.of("or the first of that NAME has another number of PARAMETERS;");
        Edges.fault(2, "fn main(): int { return @main(1); }", HELP + Edges.main("do @f();"), HELP
            + Edges.main("do @f(1, 2);"),
            HELP + Edges.main("do @h(1);"), HELP + Edges.main("do @h();"), HELP + Edges.main("do @h(1, \"\", 1);"),
            "fn main(): int { do @f(1); } fn f(): int { }",
            "fn main(): int { do @f(1, 2, 3, 4, 5, 6, 7); } fn f(): int { }",
            "fn main(): int { do @k(1, 2, 3, 4, 5, 6, 7); } fn k(a: int, b: int, c: int, d: int, e: int, f: int): int { }",
            // the second of that NAME has that number
            "fn main(): int { do @f(1); } fn f(): int { } fn f(n: int): int { }",
            MAIN + "fn f(): int { } fn g(): int { return f(); } fn @f(n: int): int { }",
            MAIN + "fn f(): int { } fn g(): int { return @f(1); } fn f(n: int): int { }");
    }

    private static void main() {
        Sentences.of("if there is none of these and no FUNCTION main without PARAMETERS and of TYPE int: the length of the text.");
        Edges.fault(2, "fn f(): int { }@", "fn f(): int { }  \n @", "fn main(): text { }@",
            "fn main(a: int): int { }@",
            "fn main(a: text): text { } @", "fn mai(): int { } fn mainn(): int { } fn m(main: int): int { }@",
            "fn f(): int { do 1 + \"\"; }@", "fn f(): int { let main = 1; }@");
        Edges.right("fn main(): int { }", "fn f(): text { } fn main(): int { } fn g(): text { }");
        // none of these
        Edges.fault(2, "fn f(): int { do @a; }", "fn main(): text { } fn @main(): int { }",
            "fn main(a: int): int { return @main(); }",
            "fn main(a: int, @a: int): int { }");
        String text = "fn f(): int { }";
        Checks.faultAt(2, 3000, text + " ".repeat(3000 - text.length()));
    }

    private static void wrong(String... marked) {
        for (String s : marked) {
            Checks.fault(3, HELP + Edges.main("let i = 1; let t = \"t\"; " + s));
        }
    }

    private static void typesFirst() {
        Sentences.of("3 TYPES, the first word of the first E (in the order in which they end, inner ones first;");
        wrong("do @t + i; do t * 2;", "do i + @t + t;", "do @t + (t * 2);", "do (@t * 2) & i;", "do @i & (t + 1);",
            "do t & (@t + 1);", "do f(@t + 1) & 1;", "do -@t + t;", "do 1 + (@i & t);", "do 1 + @t[0 : -1];",
            "do 1 + @t[0 : 1];",
            "do t[-@t] & 1;", "do h(@t, -t);", "do h(-@t, 1);", "do h(1, @2) & 1;", "do len(@-i) + t;",
            "do len(@i + i);",
            "do 1 == (@t * 2);", "do t == -@t;", "do t == 1 + @t;", "if -@t { do 1 + t; }",
            "while @t & t { do t + t; }",
            "return -@t;", "i = 1 + @t;", "i = @t & \"\";", "do @i * 2 & t;", "do @t & t + 1;", "do t & i * @t;");
        Sentences.of("one that is ( E ) begins and ends with them)");
        wrong("do @(t) + 1;", "do 1 + @(t);", "do 1 + @((t));", "do @(i) & t;", "do t & @(i);", "do -@(t);",
            "do !@(t & t);",
            "do @(i)[0];", "do t[@(t)];", "do len(@(i));", "do digits(@(t));", "do 1 == @(t);", "if @(t) { }",
            "i = @(t);",
            "return @(t);", "do f(@(t));", "do (@(t) + 1);", "do (-@t);", "do (@(i) & 1);", "do @(t)[0 : 1] + 1;",
            "do @(t & t)[0 : 1] + 1;");
    }

    private static void typesOfTexts() {
        Sentences.of("that is of the wrong one: text: both sides of &,");
        wrong("do @i & t;", "do t & @i;", "do @i & i;", "do @1 & \"\";", "do t & t & @i;", "do @f(1) & t;",
            "do t & @len(t);",
            "do t & @find(t, t);", "do t & @t[0];", "do @-i & t;", "do t & @(i == i);");
        Sentences.of("the E ahead of [,");
        wrong("do @i[0];", "do @i[0 : 1];", "do @1[0];", "do @f(1)[0];", "do @len(t)[0];", "do @t[0][0];",
            "do @t[0 : 1][0][0];", "do -@1[0];");
        Sentences.of("of len,");
        wrong("do len(@i);", "do len(@1 + 1);", "do len(@len(t));", "do len(@t[0]);", "do len(@t == t);");
        Sentences.of("both of find;");
        wrong("do find(@i, t);", "do find(t, @i);", "do find(@i, i);", "do find(t, @find(t, t));",
            "do find(t[0 : 1], @t[0]);");
    }

    private static void typesOfInts() {
        Sentences.of("int: all others that are reckoned with,");
        for (String sign : new String[] {"+", "-", "*", "/", "%"}) {
            wrong("do @t " + sign + " i;", "do i " + sign + " @t;", "do @t " + sign + " t;", "do i " + sign + " i "
                + sign + " @t;",
                "do @\"\" " + sign + " 1;", "do 1 " + sign + " @digits(1);", "do @sign(1) " + sign + " 1;", "do 1 "
                + sign + " @g(t);",
                "do @t[0 : 1] " + sign + " 1;");
        }
        Sentences.of("in [ ] and digits, sign,");
        wrong("do t[@t];", "do t[@t : 1];", "do t[1 : @t];", "do t[@t : t];", "do t[@t & t];", "do digits(@t);",
            "do digits(@digits(1));",
            "do sign(@t);", "do sign(@\"a\");");
        Sentences.of("those of if and while, and or ! -;");
        wrong("if @t { }", "if @\"\" { }", "while @t { }", "while @g(t) { }", "do @t and 1;", "do 1 and @t;",
            "do @t or 1;", "do 1 or @t;",
            "do 1 or 1 or @t;", "do 1 and 1 and @t;", "do @t or t and t;", "do 1 or @t and t;", "do !@t;", "do -@t;",
            "do !!@t;", "do -!@t[0 : 1];");
    }

    private static void typesAlike() {
        Sentences.of("the two sides of == != < <= alike (the right one is the wrong one);");
        for (String sign : new String[] {"==", "!=", "<", "<="}) {
            wrong("do i " + sign + " @t;", "do t " + sign + " @i;", "do 1 " + sign + " @\"\";", "do \"\" " + sign
                + " @1;",
                "do t & t " + sign + " @i + i;", "do i + i " + sign + " @t & t;", "do t " + sign + " @(i " + sign
                + " i);", "do 1 + (t " + sign + " @i);");
            Checks.right(HELP + Edges.main("let i = 1; let t = \"\"; do i " + sign + " i; do t " + sign
                + " t; do 1 + (t " + sign + " t);"));
        }
    }

    private static void typesGiven() {
        Sentences.of("of a let's NAME its E tells the TYPE;");
        wrong("let a = i; do @a & t;", "let a = t; do @a + 1;", "let a = t[0]; do @a & t;",
            "let a = t[0 : 1]; do @a + 1;", "let a = t == t; do @a & t;",
            "let a = g(t); do @a + 1;", "let a = f(1); do @a & t;", "let a = (t); do @a + 1;",
            "let a = digits(1); do @a + 1;",
            "let a = len(t); do @a & t;", "if 1 { let a = 1; do a + 1; } let a = t; do @a + 1;",
            "let a = t; let b = a; do @b + 1;");
        Sentences.of("what a NAME is given,");
        wrong("i = @t;", "t = @i;", "i = @t & t;", "t = @i + i;", "let a = 1; a = @t;", "let a = t; a = @1;",
            "t = @t[0];", "i = @t[0 : 1];");
        Checks.fault(3, "fn f(a: int, b: text): int { a = @b; } " + MAIN);
        Checks.fault(3, "fn f(a: int, b: text): int { b = @a; } " + MAIN);
        Sentences.of("and what is returned");
        wrong("return @t;", "return @\"\";", "if 1 { return @g(t); }");
        Checks.fault(3, "fn f(): text { return @1; } " + MAIN);
        Checks.fault(3, "fn f(): text { while 1 { return @len(\"\"); } } " + MAIN);
        Checks.fault(3, "fn f(t: text): int { return @t; } " + MAIN);
        Sentences.of("or handed to a PARAMETER has its TYPE.");
        wrong("do f(@t);", "do g(@i);", "do h(@t, t);", "do h(1, @1);", "do h(@t, 1);", "do h(f(@t), 1);",
            "do f(@g(t));", "do g(@f(1));");
        Checks.fault(3,
            "fn main(): int { do k(1, \"\", 3, \"\", 5, @6); } fn k(a: int, b: text, c: int, d: text, e: int, f: text): int { }");
        Checks.fault(3,
            "fn main(): int { do k(1, \"\", 3, \"\", @\"\", 6); } fn k(a: int, b: text, c: int, d: text, e: int, f: text): int { }");
    }
}
