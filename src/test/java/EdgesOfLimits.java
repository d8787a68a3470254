/** Promises 3 and 4, Terms 1, LIMITS: the last that is within each, the first beyond, and far beyond. */
final class EdgesOfLimits {
    private EdgesOfLimits() {
    }

    static void all() {
        bytes();
        functions();
        parameters();
        locals();
        statements();
        depth();
        brackets();
        signsOfOneS();
        signsBetween();
        otherSigns();
    }

    private static void bytes() {
        Sentences.of("LIMITS: 3000 bytes,");
        String whole = "print 1 - 2; print \"" + "x".repeat(90) + "\";";
        String text = "fn main(): int { " + " ".repeat(3000 - 19 - whole.length()) + whole + " }";
        Checks.same("length", 3000, text.length());
        Checks.same("told", "-1" + "x".repeat(90), Checks.toldText(Edges.run(0, 0, 1, text)));
        Edges.right("fn main(): int { }" + " ".repeat(2982), "fn main(): int { }" + "\n".repeat(2981));
        for (int more : new int[] {1, 2, 100, 199, 200}) {
            Checks.faultAt(1, 3000, text + " ".repeat(more));
            Checks.faultAt(1, 3000, " ".repeat(3000 + more));
        }
    }

    private static void functions() {
        Sentences.of("20 FUNCTIONS,");
        StringBuilder nineteen = new StringBuilder();
        for (int i = 1; i < 20; i++) {
            nineteen.append("fn f").append(i).append("(n: int): int { return n + ").append(i).append("; } ");
        }
        QuillEngine x = Edges.run(0, 0, 2, nineteen + Edges.main("return f1(50) + f19(49);"));
        Checks.same("f1(50) + f19(49)", 119, x.told(0));
        Edges.fault(1, nineteen + Edges.main("") + " @fn f20(): int { }", nineteen + Edges.main("") + "@fn",
            nineteen + Edges.main("") + " @fn main(): int { }", nineteen + Edges.main("") + "@fn 1");
    }

    private static void parameters() {
        Sentences.of("6 PARAMETERS,");
        String six = "a: int, b: text, c: int, d: text, e: int, f: text";
        QuillEngine x = Edges.run(0, 0, 2, "fn g(" + six
            + "): int { print b; print d; print f; return a * 100 + c * 10 + e; } "
            + Edges.main("return g(1, \"x\", 2, \"y\", 3, \"z\");"));
        Checks.same("the six", 123, x.told(0));
        Checks.same("the six", "xyz", Checks.toldText(x));
        Edges.fault(1, "fn g(" + six + ", @h: int): int { } " + Edges.main(""), "fn g(" + six + ", @a: int): int { }",
            "fn g(" + six + ", @h", "fn g(" + six + ",@", "fn g(" + six + ", @h, i, j, k)",
            "fn g(" + six + ", @): int { } " + Edges.main(""), "fn g(" + six + "@;");
    }

    private static String lets(int from, int to) {
        StringBuilder s = new StringBuilder();
        for (int i = from; i < to; i++) {
            s.append("let v").append(i).append(" = ").append(i).append("; ");
        }
        return s.toString();
    }

    private static void locals() {
        Sentences.of("30 locals of a function in scope at once (PARAMETERS, too),");
        Edges.tells("0 29 435", lets(0, 30)
            + "print v0; print \" \"; print v29; print \" \"; print v0+v1+v2+v3+v4+v5+v6+v7"
            + "+v8+v9+v10+v11+v12+v13+v14+v15+v16+v17+v18+v19+v20+v21+v22+v23+v24+v25+v26+v27+v28+v29;");
        Edges.faultS(1, lets(0, 30) + "let @w = 1;", lets(0, 30) + "if 1 { let @w = 1; }", lets(0, 30)
            + "let @v0 = 1;",
            lets(0, 30) + "while 0 { if 0 { } else { let @w = w; } }");
        // in scope at once: those of BLOCKS that ended are not
        Edges.rightS(lets(0, 29) + "if 1 { let a = 1; } else { let b = 1; } while 0 { let c = 1; } let d = 1;",
            "if 1 { " + lets(0, 30) + "} " + lets(30, 60), lets(0, 15) + "if 1 { " + lets(15, 30) + "} " + lets(30,
            45));
        Edges.faultS(1, lets(0, 29) + "if 1 { let a = 1; let @b = 1; }", lets(0, 15) + "if 1 { " + lets(15, 30)
            + "let @w = 1; }");
        // of a function, and PARAMETERS, too
        String six = "fn f(a: int, b: int, c: int, d: int, e: int, f: int): int { ";
        Edges.right(six + lets(0, 24) + "return a + v23; } " + Edges.main(lets(0, 30)
            + "return f(1, 2, 3, 4, 5, 6);"),
            "fn f(a: int): int { " + lets(0, 29) + "} " + Edges.main(lets(0, 30)));
        Edges.fault(1, six + lets(0, 24) + "let @w = 1; } " + Edges.main(""),
            "fn f(a: int): int { " + lets(0, 29) + "let @w = 1; } " + Edges.main(""));
    }

    private static void statements() {
        Sentences.of("300 S of the whole text,");
        Checks.same("steps of 300", 301, Edges.run(0, 0, 1, Edges.main("do 1;".repeat(300))).told(2));
        Edges.faultS(1, "do 1;".repeat(300) + "@do 1;", "do 1;".repeat(300) + "@let a = 1;", "do 1;".repeat(300)
            + "@a = 1;",
            "do 1;".repeat(300) + "@if 1 { }", "do 1;".repeat(300) + "@while 0 { }", "do 1;".repeat(300)
            + "@return 1;",
            "do 1;".repeat(300) + "@print 1;", "if 1{}".repeat(299) + "do 1; @do 1;");
        // of the whole text: in all FUNCTIONS and within one another's BLOCKS
        Edges.right("fn f(): int { " + "do 1;".repeat(299) + " } " + Edges.main("do 1;"));
        Edges.fault(1, "fn f(): int { " + "do 1;".repeat(299) + " } " + Edges.main("do 1; @do 1;"),
            "fn f(): int { " + "do 1;".repeat(300) + " } " + Edges.main("@do 1;"));
        Edges.rightS("if 1 { do 1; } ".repeat(150), "if 0{do 1;}else{do 1;}".repeat(100));
        Edges.faultS(1, "if 1 { do 1; } ".repeat(150) + "@do 1;", "if 1 { do 1; } ".repeat(149)
            + "do 1; if 1 { @do 1; }",
            "if 0{do 1;}else{do 1;}".repeat(99) + "do 1; if 0 { do 1; } else { @do 1; }");
    }

    private static String nest(String open, int many, String inside, String close) {
        return open.repeat(many) + inside + close.repeat(many);
    }

    private static void depth() {
        Sentences.of("S 8 deep within one another's BLOCKS,");
        for (String open : new String[] {"if 1 { ", "if 0 { } else { "}) {
            Edges.rightS(nest(open, 7, "do 1;", " }"), nest(open, 8, "", " }"));
            Edges.faultS(1, nest(open, 8, "@do 1;", " }"), nest(open, 8, "@x = 1;", " }"), nest(open, 8,
                "@let x = 1;", " }"),
                nest(open, 8, "@return 1;", " }"), nest(open, 8, "@print 1;", " }"), nest(open, 8, "@if 1 { }", " }"),
                nest(open, 8, "@while 0 { }", " }"), nest(open, 7, "do 1; if 1 { } do 2; if 1 { @do 3; }", " }"));
        }
        Edges.rightS(nest("while 0 { ", 7, "do 1;", " }"), nest("if 1 { ", 7, "do 1;", " }") + nest("if 1 { ", 7,
            "do 1;", " }"),
            nest("if 1 { ", 7, "do 1; do 2; if 1 { } else { }", " }"));
        Edges.faultS(1, nest("while 0 { ", 8, "@do 1;", " }"), nest("if 1 { while 1 { ", 4, "@do 1;", " } }"));
        Edges.fault(1, Edges.main("if 1 { ".repeat(8) + "@if 1 { if 1 { do 1; } }" + " }".repeat(8)));
        Edges.tells("8", nest("if 1 { ", 7, "print 8;", " }"));
    }

    private static void brackets() {
        Sentences.of("8 ( and [ of E within one another,");
        Edges.prints("5", nest("(", 8, "5", ")"));
        Edges.faultS(1, "do " + "(".repeat(8) + "@(5" + ")".repeat(9) + ";");
        String f = "fn f(n: int): int { return n; } fn g(n: int, m: int): int { return m; } fn z(): int { } ";
        String[][] nests = {{"(", ")"}, {"f(", ")"}, {"g(1, ", ")"}, {"\"a\"[", "]"}, {"len(digits(", "))"},
            {"len(\"a\"[0 : ", "])"}, {"find(\"a\", sign(", "))"}, {"(f(", "))"}};
        for (String[] nest : nests) {
            int many = 8 / nest[1].length();
            Edges.right(f + Edges.main("do " + nest(nest[0], many, "1", nest[1]) + ";"));
            for (String ninth : new String[] {"@(1)", "f@(1)", "z@()", "g@(1, 2)", "len@(\"\")", "find@(\"\", \"\")",
                "digits@(1)", "sign@(1)", "\"a\"@[1]", "\"a\"@[1 : 2]"}) {
                Edges.fault(1, f + Edges.main("do " + nest(nest[0], many, ninth, nest[1]) + ";"));
            }
        }
        // within one another: not those side by side, and those of a function's head or another S
        Edges.right(f + Edges.main("do " + nest("(", 8, "1", ")") + " + " + nest("f(", 8, "1", ")") + " + "
            + nest("\"a\"[", 8, "0", "]") + ";"));
        Edges.rightS("do \"abc\"" + "[0 : 3]".repeat(20) + ";", "if " + nest("(", 8, "1", ")") + " { do " + nest("(",
            8, "1", ")") + "; }");
        Edges.faultS(1, "do " + nest("(", 8, "1", ")") + " + " + "(".repeat(8) + "@(1" + ")".repeat(9) + ";",
            "if " + "(".repeat(8) + "@(1" + ")".repeat(9) + " { }", "while " + "(".repeat(8) + "@(1" + ")".repeat(9)
            + " { }",
            "return " + "(".repeat(8) + "@(1" + ")".repeat(9) + ";", "let a = " + "(".repeat(8) + "@(1"
            + ")".repeat(9) + ";");
    }

    private static void signsOfOneS() {
        Sentences.of("40 SIGNS in the whole E of an S");
        // the whole E, also within brackets; each S has one of its own
        Edges.rightS("do (1" + " + 1".repeat(19) + ") + (1" + " + 1".repeat(20) + ");", "do \"ab\"[0"
            + " + 1".repeat(39) + "];",
            "do 1" + " + 1".repeat(40) + "; do 1" + " + 1".repeat(40) + ";",
            "if 1" + " + 1".repeat(40) + " { do 1" + " + 1".repeat(40) + "; } while 0 and 1" + " + 1".repeat(39)
            + " { }");
        Edges.faultS(1, "do (1" + " + 1".repeat(20) + ") + (1" + " + 1".repeat(19) + " @+ 1);",
            "do \"ab\"[0" + " + 1".repeat(39) + " @+ 1];", "do len(digits(1" + " + 1".repeat(38) + " @+ 1));",
            "if 1" + " + 1".repeat(40) + " @+ 1 { }", "while 1" + " + 1".repeat(40) + " @+ 1 { }",
            "let a = 1" + " + 1".repeat(40) + " @+ 1;", "return 1" + " + 1".repeat(40) + " @+ 1;",
            "print 1" + " + 1".repeat(40) + " @+ 1;", "let a = 1; a = 1" + " + 1".repeat(40) + " @+ 1;");
    }

    private static void signsBetween() {
        Sentences.of("(each sign or word between two,");
        for (String sign : new String[] {"+", "-", "*", "/", "%", "and", "or"}) {
            Edges.rightS("do 1" + (" " + sign + " 1").repeat(40) + ";");
            Edges.faultS(1, "do 1" + (" " + sign + " 1").repeat(40) + " @" + sign + " 1;",
                "do 1" + (" " + sign + " 1").repeat(40) + " @+ 1;", "do 1" + " + 1".repeat(40) + " @" + sign + " 1;");
        }
        Edges.rightS("do \"a\"" + " & \"a\"".repeat(40) + ";");
        Edges.faultS(1, "do \"a\"" + " & \"a\"".repeat(40) + " @& \"a\";");
        for (String sign : new String[] {"==", "!=", "<", "<="}) {
            String twenty = "1 " + sign + " 1" + (" and 1 " + sign + " 1").repeat(19);
            Edges.rightS("do " + twenty + " and 1;");
            Edges.faultS(1, "do " + twenty + " and 1 @" + sign + " 1;", "do 1" + " + 1".repeat(40) + " @" + sign
                + " 1;",
                "do " + twenty + " and 1 @and 1;");
        }
        // commas stand between two, and so does :, but they are no sign of E's levels
        Edges.right("fn f(a: int, b: int, c: int): int { } " + Edges.main("do f(1, 2, 3)" + " + f(1, 2, 3)".repeat(19)
            + " + 1;"));
        Edges.rightS("do \"a\"" + "[0 : 1]".repeat(40) + ";");
    }

    private static void otherSigns() {
        Sentences.of("each - or ! in front,");
        Edges.prints("1", "-".repeat(40) + "1");
        Edges.prints("1", "!".repeat(40) + "1");
        Edges.faultS(1, "do " + "-".repeat(40) + "@-1;", "do " + "!".repeat(40) + "@!1;", "do " + "-!".repeat(20)
            + "@-1;",
            "do 1" + " + 1".repeat(39) + " + @-1;", "do 1" + " + 1".repeat(39) + " + @!1;", "do " + "-".repeat(40)
            + "1 @+ 1;");
        Sentences.of("each [,");
        Edges.rightS("do \"a\"" + "[0 : 1]".repeat(39) + "[0];");
        Edges.faultS(1, "do \"a\"" + "[0 : 1]".repeat(40) + "@[0];", "do \"a\"" + "[0 : 1]".repeat(40) + "@[0 : 1];",
            "do 1" + " + 1".repeat(39) + " + \"a\"@[0];", "do \"a\"" + "[0 : 1]".repeat(40) + " @& \"a\";");
        Sentences.of("each word ahead of the ( of a call, len, find, digits, sign is one).");
        String f = "fn f(): int { } fn g(a: int, b: int): int { } ";
        Edges.right(f + Edges.main("do f()" + " + f()".repeat(19) + " + 1;"), f + Edges.main("do 1"
            + " + 1".repeat(38) + " + g(1, 2);"));
        Edges.fault(1, f + Edges.main("do f()" + " + f()".repeat(19) + " + @f();"),
            f + Edges.main("do 1" + " + 1".repeat(39) + " + @g(1, 2);"));
        for (String call : new String[] {"len(\"\")", "find(\"\", \"\")", "digits(1)[0]", "sign(1)[0]"}) {
            int signs = call.endsWith("[0]") ? 2 : 1;
            Edges.rightS("do 1" + " + 1".repeat(39 - signs) + " + " + call + ";");
            Edges.faultS(1, "do 1" + " + 1".repeat(39) + " + @" + call + ";");
        }
        // a ( alone, a NAME that is read and an atom are none
        Edges.rightS("let a = 1; do ((a))" + " + ((a))".repeat(40) + ";");
    }
}
