/** Promises 3 and 4: faults of NAMES (kind 2), each at the place that the mark @ stands at. */
final class NamesTest {
    private static final String MAIN = "fn main(): int { } ";

    private NamesTest() {
    }

    private static void wrong(String marked) {
        Checks.fault(2, marked);
    }

    private static void wrongS(String s) {
        wrong("fn main(): int { " + s + " }");
    }

    private static void okS(String s) {
        Checks.right("fn main(): int { " + s + " }");
    }

    private static void functions() {
        wrong(MAIN + "fn @main(): int { }");
        wrong(MAIN + "fn f(): int { } fn @f(): text { }");
        wrong(MAIN + "fn f(): int { } fn @f(a: int): int { } fn f(b: int): int { }");
        wrong("fn main(): text { } fn @main(): int { }");
        Checks.right("fn f(): int { return g(); } fn g(): int { return main(); } fn main(): int { return f(); }");
        // locals and FUNCTIONS have NAMES of their own
        Checks.right("fn f(f: int): int { return f + f(f); } fn main(): int { let main = 1; return f(main); }");
    }

    private static void mains() {
        wrong("fn f(): int { }@");
        wrong("fn f(): int { }   @");
        wrong("fn main(): text { }@");
        wrong("fn main(a: int): int { }@");
        wrong("fn main(a: int): int { }\n@");
        // the other faults come ahead
        wrong("fn f(): int { return @a; }");
        wrong("fn main(a: int): int { return @main(); }");
    }

    private static void locals() {
        wrong("fn f(a: int, @a: text): int { } " + MAIN);
        wrong("fn f(a: int): int { let @a = 1; } " + MAIN);
        wrong("fn f(a: int): int { if a { let @a = 1; } } " + MAIN);
        Checks.right("fn f(a: int): int { } fn g(a: text): int { } " + MAIN);
        wrongS("let a = 1; let @a = 2;");
        wrongS("let a = 1; if a { let @a = 2; }");
        wrongS("let a = 1; while a { if a { let @a = 2; } }");
        okS("if 1 { let a = 1; } else { let a = \"t\"; } let a = 3; while a { let b = a; } let b = 4;");
        okS("if 1 { let a = 1; } if 1 { let a = \"x\"; a = a & a; }");
        wrongS("let a = @a;");
        wrongS("let a = 1 + @a;");
        wrongS("let a = 1; let b = a + @c;");
        wrongS("@a = 1; let a = 2;");
        wrongS("do @a; let a = 2;");
        wrongS("if 1 { let a = 1; } do @a;");
        wrongS("if 1 { let a = 1; } else { do @a; }");
        wrongS("if 1 { let a = 1; } else { @a = 2; }");
        wrongS("while @a { let a = 1; }");
        wrongS("while 1 { let a = 1; } @a = 2;");
        wrongS("do @main;");
        wrongS("@main = 1;");
        wrong("fn f(a: int): int { } fn main(): int { return @a; }");
        wrong("fn f(): int { let a = 1; } fn main(): int { return @a; }");
        wrong("fn f(a: int): int { return @b; } fn g(b: int): int { return a; } " + MAIN);
        for (String e : new String[] {"@a + b", "1 - @a", "-@a", "!@a", "(@a)", "len(@a)", "find(@a, b)",
            "find(\"\", @a)", "digits(@a)", "sign(@a)", "@a[0]", "\"a\"[@a]", "\"a\"[@a : 1]", "\"a\"[0 : @a]",
            "1 or @a", "@a and 1", "1 == @a", "@a < a", "\"a\" & @a", "\"a\" + @a"}) {
            wrongS("do " + e + ";");
            wrongS("print " + e + ";");
            wrongS("return " + e + ";");
            wrongS("if " + e + " { }");
        }
    }

    private static void calls() {
        wrongS("do @f();");
        wrongS("do 1 + @f(1);");
        wrongS("let f = 1; do @f(1);");
        wrongS("do @main(1);");
        wrong(MAIN + "fn f(a: int): int { return @f(); }");
        wrong(MAIN + "fn f(a: int): int { return @f(1, 2); }");
        wrong(MAIN + "fn f(a: int, b: int): int { return @f(1); }");
        wrong("fn main(): int { return @f(1); } fn f(): int { }");
        wrong("fn main(): int { return @f(1, 2, 3, 4, 5, 6, 7); } fn f(): int { }");
        // the call's NAME comes ahead of the ones handed over
        wrongS("do @f(a);");
        wrong(MAIN + "fn f(a: int): int { return f(@b); }");
        wrong(MAIN + "fn f(a: int): int { return @f(b, 1); }");
        // the first of that NAME tells the number
        wrong(MAIN + "fn f(a: int): int { } fn g(): int { return @f(); } fn f(): int { }");
        wrong(MAIN + "fn f(a: int): int { } fn g(): int { return f(1); } fn @f(): int { }");
        wrong("fn main(): int { return @f(); } fn f(a: int): int { } fn f(): int { }");
    }

    /** The least place, whatever it is a fault of; and NAMES ahead of TYPES, THE TEXT ahead of NAMES. */
    private static void first() {
        wrong("fn f(): int { } fn @f(): int { return a; } fn main(): int { do g(); }");
        wrong("fn f(): int { return @a; } fn f(): int { } fn main(): int { do g(); }");
        wrong("fn f(): int { do @g(); } fn f(): int { } fn main(): int { do a; }");
        wrongS("do 1 + \"a\"; do @b;");
        Checks.fault(1, "fn main(): int { do a; do b(); let c = 1; let c = 2; } @}");
        wrong("fn f(): int { do 1 + \"a\"; }@");
    }

    public static void main(String[] args) {
        functions();
        mains();
        locals();
        calls();
        first();
        Checks.end("NamesTest");
    }
}
