/** Promises 5, 6 and 8, Terms 2: each sentence on THE HEAP and on what is LIVE, at its edges. */
final class EdgesOfHeap {
    private static final String HELP = "fn one(n: int): text { return sign(n); } fn id(t: text): text { return t; } "
        + "fn none(t: text): text { } fn zero(t: text): int { } ";

    private EdgesOfHeap() {
    }

    static void all() {
        places();
        sizes();
        whereTextsAre();
        newBlocks();
        lowest();
        others();
        parts();
        free();
        locals();
        rounds();
        partsOfE();
        sidesAndOldValues();
        handedOver();
    }

    private static void places() {
        Sentences.of("THE HEAP has PLACES 0 .. H - 1.");
        for (int heap : new int[] {0, 1, 2, 3, 4, 100, 3999, 4000}) {
            QuillEngine x = Edges.run(0, heap, 1, Edges.main(""));
            Checks.same("longest of " + heap, heap, x.told(7));
            Checks.same("pieces of " + heap, heap == 0 ? 0 : 1, x.told(6));
            for (int k : new int[] {-1, heap, heap + 1}) {
                Checks.fails("whose(" + k + ") of " + heap, IndexOutOfBoundsException.class, () -> x.whose(k));
            }
            if (heap > 0) {
                Checks.same("whose(0) of " + heap, -1, x.whose(0));
                Checks.same("whose of the last", -1, x.whose(heap - 1));
            }
        }
        // the whole of the greatest, byte by byte, and the program's QUOTES beside it stay what they are
        String text = Edges.main("let q = \"" + "q".repeat(100) + "\"; let a = \"" + "abcdefghij".repeat(10)
            + "\"; a = a & a; a = a & a; a = a & a;"
            + " let b = a[3 : 800] & \"!\"; let c = b & b; a = \"\"; let k = 0; let s = 0; while k < len(c) { if c[k] == 33 { s = s + k; }"
            + " k = k + 1; } print c[0 : 1000]; print c[1000 : 1596]; print q; return s;");
        QuillEngine x = Edges.run(0, 4000, 1, text + " ".repeat(3000 - text.length()));
        String b = "abcdefghij".repeat(80).substring(3) + "!";
        Checks.same("told", b + b + "q".repeat(100), Checks.toldText(x));
        Checks.same("places of !", 797 + 1595, x.told(0));
    }

    private static void sizes() {
        Sentences.of("A BLOCK of n bytes is n + 1 places side by side.");
        for (int n : new int[] {1, 2, 3, 4, 10, 11}) {
            String e = n == 1 ? "sign(1)" : n == 11 ? "digits(-2147483647 - 1)" : "\"a\" & \"" + "b".repeat(n - 1)
                + "\"";
            Edges.places("0".repeat(n + 1), "let t = " + e + ";");
            Edges.places("0".repeat(n + 1) + ".", "let t = " + e + ";");
            QuillEngine x = Edges.run(2, n, 1, Edges.main("let t = " + e + ";"));
            Checks.same("longest", n, x.told(7));
        }
        Edges.places("000111", "let a = \"a\" & \"b\"; let b = \"c\" & \"d\";");
        Edges.places("00111122222", "let a = sign(1); let b = digits(123); let c = \"ab\" & \"cd\";");
    }

    private static void whereTextsAre() {
        Sentences.of("A text is in a block (all of it, or a part), or in the program (QUOTES), or empty: then it refers to none.");
        Edges.places("000.", "let t = \"a\" & \"b\";");
        Edges.places("0000.", "let t = (\"ab\" & \"c\")[1 : 2];");
        Edges.places("....", "let t = \"abc\";");
        Edges.places("....", "let t = \"abc\"[1 : 2];");
        Edges.places("....", "let t = \"\";");
        Edges.places("....", "let t = (\"a\" & \"b\")[1 : 1];");
        Edges.places("....", "let t = (\"a\" & \"b\")[2 : 2];");
        Edges.places("....", "let t = (\"a\" & \"b\")[2 : 0];");
        Edges.places("....", "let t = (\"a\" & \"b\")[0 : 0];");
        Edges.places("....", HELP, "let t = none(sign(1));");
    }

    private static void newBlocks() {
        Sentences.of("& of two texts that are not empty, digits and sign make a new block:");
        Edges.makes(1, 3, "do \"a\" & \"b\";");
        Edges.makes(1, 2, "do digits(0);");
        Edges.makes(1, 2, "do sign(0);");
        Edges.makes(3, 3, "do digits(1); do sign(1); do \"a\" & \"b\";");
        Edges.makes(2, 5, "let t = sign(1); t = t & t;");
        Edges.makes(0, 0,
            "let a = \"a\"; let b = a[0 : 1]; do a == b; do find(a, b); do len(a); print a; print 12; do a[0]; a = b;");
        Edges.makes(2, 4, "let a = sign(1); let b = sign(1);");
        Edges.run(2, 0, 1, Edges.main("do sign(1);"));
        Edges.run(2, 1, 1, Edges.main("do sign(1);"));
        Edges.run(0, 2, 1, Edges.main("do sign(1);"));
        Edges.run(2, 1, 1, Edges.main("do digits(7);"));
        Edges.run(0, 2, 1, Edges.main("do digits(7);"));
        Edges.run(2, 2, 1, Edges.main("do \"a\" & \"b\";"));
        Edges.run(0, 3, 1, Edges.main("do \"a\" & \"b\";"));
    }

    private static void lowest() {
        Sentences.of("at the lowest free places side by side that are enough.");
        String three = "let a = \"a\" & \"b\"; let b = sign(1); let c = \"abc\" & \"d\"; let d = sign(2); ";
        Edges.places("000112222233.....", three);
        Edges.places("44.112222233.....", three + "a = \"\"; let e = sign(3);");
        Edges.places("444112222233.....", three + "a = \"\"; let e = \"a\" & \"b\";");
        Edges.places("...1122222334444.", three + "a = \"\"; let e = digits(123);");
        Edges.places("...114444.33.....", three + "a = \"\"; c = \"\"; let e = digits(123);");
        Edges.places("55.114444.33.....", three + "a = \"\"; c = \"\"; let e = digits(123); let f = sign(3);");
        Edges.places("444442222233.....", three + "a = \"\"; b = \"\"; let e = \"ab\" & \"cd\";");
        Edges.places("000444444.33.....", three + "b = \"\"; c = \"\"; let e = digits(12345);");
        Edges.places("00011222224444444", three + "d = \"\"; let e = digits(123456);");
        Edges.places("444444444444.....", three
            + "a = \"\"; b = \"\"; c = \"\"; d = \"\"; let e = digits(-1000000000);");
        // free places that are enough in all, but not side by side
        QuillEngine x = Edges.run(2, 12, 1, Edges.main(three + "a = \"\"; c = \"\"; let e = digits(12345);"));
        Checks.same("places", "...11.....33", Edges.map(x, 12));
        Checks.same("free in all", 8, 12 - x.told(5));
        Checks.same("longest", 5, x.told(7));
        Edges.run(0, 12, 1, Edges.main(three + "a = \"\"; c = \"\"; let e = digits(1234);"));
    }

    private static void others() {
        Sentences.of("& of an empty one and another one is that other one;");
        Edges.makes(0, 0, "let t = \"\" & \"a\"; t = t & \"\"; t = \"\" & \"\"; t = \"a\"[1 : 1] & t;");
        Edges.places("00...", "let t = sign(1); let u = t & \"\"; t = \"\";");
        Edges.places("00...", "let t = sign(1); let u = \"\" & t; t = \"\";");
        Edges.places("00...", "let t = sign(1) & \"\";");
        Edges.places("00...", "let t = \"\" & sign(1);");
        Edges.places(".....", "let t = sign(1); t = \"\" & \"\";");
        Edges.places("00...", "let t = sign(1); t = sign(2)[1 : 1] & t;");
        Edges.places("00...", "let t = sign(1); t = t & sign(2)[1 : 1];");
        Edges.prints("ab", "\"\" & \"ab\" & \"\"");
    }

    private static void parts() {
        Sentences.of("a part (not empty) refers to the same block, or to the program.");
        Edges.makes(1, 5, "let t = \"ab\" & \"cd\"; let u = t[1 : 3]; let v = u[0 : 1]; t = v;");
        Edges.places("00000", "let t = \"ab\" & \"cd\"; let u = t[1 : 2]; t = \"\";");
        Edges.places("00000", "let t = \"ab\" & \"cd\"; let u = t[0 : 3]; let v = u[2 : 3]; t = \"\"; u = \"\";");
        Edges.places(".....", "let t = \"ab\" & \"cd\"; let u = t[1 : 2]; t = \"\"; u = \"\";");
        Edges.places(".....", "let t = \"ab\" & \"cd\"; let u = t[2 : 2]; let v = t[3 : 1]; t = \"\";");
        Edges.places(".....", "let t = \"abcd\"; let u = t[1 : 2];");
        Edges.places("00000", "let t = \"ab\" & \"cd\"; t = t[0 : 4];");
        Edges.places("00000", "let t = \"ab\" & \"cd\"; t = t[3 : 4]; t = t[0 : 1];");
    }

    private static void free() {
        Sentences.of("A block is free from when on no LIVE text refers to it.");
        Edges.places("....", "do sign(1);");
        Edges.places("11..", "let t = sign(1); t = \"\"; t = sign(2);");
        Edges.places("00..", "let t = sign(1); let u = t; t = \"\";");
        Edges.places("....", "let t = sign(1); let u = t; t = \"\"; u = t;");
        Edges.places("00..", "let t = sign(1); let u = t; let v = u; u = v; v = \"\"; t = v;");
        Edges.makes(200, 2, "let k = 0; while k < 200 { do sign(k); k = k + 1; }");
        Edges.run(0, 2, 1, Edges.main("let k = 0; while k < 5000 { print sign(k)[1 : 1]; k = k + 1; }"));
        Edges.run(0, 4, 1, Edges.main("let t = \"\"; let k = 0; while k < 5000 { t = sign(k); k = k + 1; }"));
    }

    private static void locals() {
        Sentences.of("LIVE is: what a local has, till it has another one,");
        Edges.places("00..", "let t = sign(1);");
        Edges.places("....", "let t = sign(1); t = \"x\";");
        Edges.places("....", "let t = sign(1); t = \"\";");
        Edges.places("00..", "let t = sign(1); t = t;");
        Edges.places("00..", "let t = sign(1); t = t[0 : 1];");
        Edges.places("....", "let t = sign(1); t = t[1 : 1];");
        Edges.places("..11", "let t = sign(1); t = sign(2);");
        Edges.places("....", "fn f(t: text): int { t = \"\"; return 1 / 0; } ", "do f(sign(1));");
        Sentences.of("or its BLOCK (its function) ends,");
        Edges.places("....", "if 1 { let t = sign(1); }");
        Edges.places("....", "if 0 { } else { let t = sign(1); }");
        Edges.places("......", "if 1 { let t = sign(1); if 1 { let u = sign(2); let v = sign(3); } }");
        Edges.places("00....", "let t = sign(1); if 1 { let u = sign(2); let v = sign(3); }");
        Edges.places("00....", "let t = \"\"; if 1 { let u = sign(2); let v = sign(3); t = u; }");
        Edges.places("00..", "if 1 { let t = sign(1); do 1 / 0; }");
        Edges.places("11..", "if 1 { let t = sign(1); } let u = sign(2);");
        Edges.places("....", HELP, "do zero(sign(1));");
        Edges.places("......", "fn f(t: text): int { let u = sign(2); if 1 { let v = sign(3); return 1; } } ",
            "do f(sign(1));");
        Edges.places("......",
            "fn f(t: text): int { let u = sign(2); while 1 { let v = sign(3); if 1 { return 1; } } } ",
            "do f(sign(1));");
        Edges.places("..11..", "fn f(t: text): text { let u = sign(2); while 1 { let v = sign(3); return u; } } ",
            "let t = f(sign(1));");
        Edges.places("001122", "fn f(t: text): int { let u = sign(2); while 1 { let v = sign(3); return 1 / 0; } } ",
            "do f(sign(1));");
    }

    private static void rounds() {
        Sentences.of("also with each round of a while;");
        Edges.places("....", "let k = 0; while k < 3 { let t = sign(k); k = k + 1; }");
        Edges.makes(3, 2, "let k = 0; while k < 3 { let t = sign(k); k = k + 1; }");
        Edges.makes(6, 4, "let k = 0; while k < 3 { let t = sign(k); if 1 { let u = sign(k); } k = k + 1; }");
        Edges.makes(4, 4, "let k = 0; let l = \"\"; while k < 4 { let t = sign(k); l = t; k = k + 1; }");
        Edges.places("11..", "let k = 0; while k < 2 { let t = sign(k); if k { do 1 / 0; } k = k + 1; }");
        // ahead of the next round's E
        Edges.run(0, 2, 1, Edges.main("let k = 0; while len(sign(1)) * 3 - k { let t = sign(k); k = k + 1; }"));
        Edges.run(0, 2, 2, "fn f(k: int): int { return len(sign(k)) and k < 5; } "
            + Edges.main("let k = 0; while f(k) { let t = sign(k); k = k + 1; }"));
    }

    private static void partsOfE() {
        Sentences.of("what part of an E or S came to, till what it is a part of is done");
        Edges.makes(2, 2, "do len(sign(1)) + len(sign(2));");
        Edges.makes(2, 2, "do sign(1)[0] * sign(2)[0];");
        Edges.makes(4, 4, "do (sign(1) == sign(2)) + (sign(3) < sign(4));");
        Edges.makes(4, 4, "do find(sign(1), sign(2)) - find(sign(3), sign(4));");
        Edges.makes(2, 2, "do len(sign(1)) and len(sign(2));");
        Edges.makes(2, 2, "do !len(sign(1)) or len(sign(2));");
        Edges.makes(2, 2, "do -len(sign(1)) == -len(sign(2));");
        Edges.makes(2, 2, "print sign(1); print sign(2);");
        Edges.makes(2, 2, "if len(sign(1)) { do sign(2); }");
        Edges.makes(2, 2, "if sign(1) == \"\" { } else { do sign(2); }");
        Edges.makes(2, 2, "do digits(len(sign(1)));");
        Edges.makes(3, 2, "do sign(len(sign(len(sign(1)))));");
        Edges.makes(2, 2, "do sign(1)[1 : 1] & sign(2);");
        Edges.makes(1, 3, "do (\"a\" & \"b\")[0 : 1][0 : 1] & \"\";");
        Edges.makes(2, 6, "do (\"a\" & \"b\")[0 : 1] & \"c\";");
        Edges.makes(2, 4, HELP, "do id(sign(1)) == sign(2);");
        Edges.makes(2, 2, HELP, "do none(sign(1)) == sign(2);");
        Edges.makes(2, 2, HELP, "do zero(sign(1)) == len(sign(2));");
        // what print tells too much of is a part of its S, and so is what is returned
        Edges.makes(1, 2, HELP, "print id(id(id(sign(1))));");
    }

    private static void sidesAndOldValues() {
        Sentences.of("(so both sides of & while it is made,");
        Edges.makes(3, 7, "do sign(1) & sign(2);");
        Edges.run(2, 6, 1, Edges.main("do sign(1) & sign(2);"));
        Edges.run(0, 7, 1, Edges.main("do sign(1) & sign(2);"));
        Edges.run(2, 4, 1, Edges.main("do sign(1) & \"a\";"));
        Edges.run(0, 5, 1, Edges.main("do sign(1) & \"a\";"));
        Edges.run(2, 4, 1, Edges.main("do \"a\" & sign(1);"));
        Edges.run(0, 5, 1, Edges.main("do \"a\" & sign(1);"));
        Edges.places("....222", "let t = sign(1) & sign(2);");
        Sentences.of("an old value of a NAME while its new one is worked out,");
        Edges.run(2, 3, 1, Edges.main("let t = sign(1); t = sign(2);"));
        Edges.run(0, 4, 1, Edges.main("let t = sign(1); t = sign(2);"));
        Edges.run(0, 2, 1, Edges.main("let t = sign(1); t = \"\"; t = sign(2);"));
        Edges.run(2, 4, 1, Edges.main("let t = sign(1); t = t & \"a\";"));
        Edges.run(0, 5, 1, Edges.main("let t = sign(1); t = t & \"a\";"));
        Edges.run(2, 3, 2, HELP + Edges.main("let t = sign(1); t = one(2);"));
        Edges.run(0, 4, 2, HELP + Edges.main("let t = sign(1); t = one(2);"));
        Sentences.of("all parts ahead while the next ones are;");
        Edges.run(2, 3, 1, Edges.main("do sign(1) == sign(2);"));
        Edges.run(0, 4, 1, Edges.main("do sign(1) == sign(2);"));
        Edges.run(2, 3, 1, Edges.main("do sign(1)[len(sign(2))];"));
        Edges.run(0, 4, 1, Edges.main("do sign(1)[len(sign(2))];"));
        Edges.run(2, 3, 1, Edges.main("do sign(1)[0 : len(sign(2))];"));
        Edges.run(0, 4, 1, Edges.main("do sign(1)[0 : len(sign(2))];"));
        Edges.run(0, 4, 1, Edges.main("do sign(1)[len(sign(2)) : len(sign(3))];"));
        Edges.run(2, 3, 1, Edges.main("do find(sign(1), sign(2));"));
        Edges.run(0, 4, 1, Edges.main("do find(sign(1), sign(2));"));
        Edges.run(0, 6, 2, HELP + Edges.main("do sign(1) & id(sign(2))[len(one(3)) : 1];"));
        Edges.run(2, 5, 2, HELP + Edges.main("do sign(1) & id(sign(2))[len(one(3)) : 1];"));
    }

    private static void handedOver() {
        Sentences.of("what is handed over, till it is its PARAMETER's).");
        String two = "fn f(a: text, b: text): int { ";
        Edges.run(2, 3, 2, two + "} " + Edges.main("do f(sign(1), sign(2));"));
        Edges.run(0, 4, 2, two + "} " + Edges.main("do f(sign(1), sign(2));"));
        Edges.run(0, 4, 2, two + "a = \"\"; do sign(3); } " + Edges.main("do f(sign(1), sign(2));"));
        Edges.run(0, 4, 2, two + "b = \"\"; do sign(3); } " + Edges.main("do f(sign(1), sign(2));"));
        Edges.run(2, 5, 2, two + "do sign(3); } " + Edges.main("do f(sign(1), sign(2));"));
        Edges.run(0, 6, 2, two + "do sign(3); } " + Edges.main("do f(sign(1), sign(2));"));
        Edges.run(2, 5, 2, two + "a = sign(3); } " + Edges.main("do f(sign(1), sign(2));"));
        Edges.run(0, 6, 2, two + "a = sign(3); b = sign(4); } " + Edges.main("do f(sign(1), sign(2));"));
        Edges.run(0, 2, 2, HELP + Edges.main("do zero(sign(1)); do zero(sign(2));"));
        // what the caller's local has stays its own
        Edges.run(2, 3, 2, "fn f(a: text): int { a = \"\"; do sign(3); } " + Edges.main("let t = sign(1); do f(t);"));
        Edges.run(0, 4, 2, "fn f(a: text): int { a = \"\"; do sign(3); } " + Edges.main("let t = sign(1); do f(t);"));
        Edges.run(0, 2, 2, "fn f(a: text): int { a = \"\"; do sign(3); } " + Edges.main("do f(sign(1));"));
    }
}
