/** Promises 3 and 4: faults of TYPES (kind 3), each at the place that the mark @ stands at. */
final class TypesTest {
    private TypesTest() {
    }

    private static String around(String s) {
        return "fn f(n: int): int { return n; } fn g(t: text): text { return t; } fn h(n: int, t: text): int { }"
            + " fn k(n: int): text { } fn main(): int { let i = 1; let t = \"t\"; " + s + " }";
    }

    private static void wrong(String s) {
        Checks.fault(3, around(s));
    }

    private static void ok(String s) {
        Checks.right(around(s));
    }

    private static void reckoned() {
        for (String sign : new String[] {"+", "-", "*", "/", "%", "and", "or"}) {
            wrong("do @t " + sign + " i;");
            wrong("do i " + sign + " @t;");
            wrong("do @t " + sign + " t;");
            wrong("do i " + sign + " i " + sign + " @t;");
            ok("do i " + sign + " i;");
        }
        wrong("do -@t;");
        wrong("do !@t;");
        wrong("do --!@t;");
        wrong("do !-@(t);");
        wrong("do @i & t;");
        wrong("do t & @i;");
        wrong("do @i & i;");
        wrong("do t & t & @i;");
        wrong("do @i + i & t;");
        wrong("do @t & t + i;");
        wrong("do t & @i * i;");
        ok("do t & t & (t & t);");
    }

    private static void compared() {
        for (String sign : new String[] {"==", "!=", "<", "<="}) {
            ok("do i " + sign + " i;");
            ok("do t " + sign + " t;");
            ok("do t & t " + sign + " t & t;");
            wrong("do i " + sign + " @t;");
            wrong("do t " + sign + " @i;");
            wrong("do i + i " + sign + " @t & t;");
            wrong("do t " + sign + " @i + i;");
            wrong("do t & @(t " + sign + " t);");
            wrong("print t & @(i " + sign + " i);");
        }
    }

    private static void parts() {
        wrong("do @i[0];");
        wrong("do @i[0 : 1];");
        wrong("do @1[0];");
        wrong("do @(i)[0];");
        wrong("do @t[0][0];");
        wrong("do t[@t];");
        wrong("do t[@t : 0];");
        wrong("do t[0 : @t];");
        wrong("do t[@t : t];");
        wrong("do @f(1)[0];");
        ok("do g(t)[0];");
        ok("do t[0 : 1][0 : 1][0];");
        wrong("do @t[0 : 1] + 1;");
        wrong("do @t[0] & t;");
        wrong("do len(@i);");
        wrong("do len(@t[0]);");
        wrong("do len(@len(t));");
        wrong("do find(@i, t);");
        wrong("do find(t, @i);");
        wrong("do find(@i, i);");
        wrong("do digits(@t);");
        wrong("do digits(@digits(1));");
        wrong("do sign(@t);");
        wrong("do sign(@sign(1));");
        wrong("do @digits(1) + 1;");
        wrong("do @sign(1) + 1;");
        wrong("do t & @len(t);");
        wrong("do t & @find(t, t);");
    }

    private static void statements() {
        wrong("if @t { }");
        wrong("while @t { }");
        wrong("while @\"\" { }");
        wrong("if @t & t { }");
        wrong("if @(t) { }");
        wrong("i = @t;");
        wrong("t = @i;");
        wrong("t = @1;");
        wrong("i = @t & t;");
        wrong("let a = i; a = @t;");
        wrong("let a = t; a = @i;");
        wrong("let a = t == t; a = @t;");
        wrong("let a = t[0]; a = @t;");
        wrong("let a = t[0 : 1]; a = @1;");
        wrong("let a = k(1); a = @f(1);");
        ok("let a = k(1); a = t; let b = f(1); b = a[0];");
        ok("print i; print t; do i; do t; return i;");
        wrong("return @t;");
        wrong("return @k(1);");
        Checks.fault(3, "fn f(): text { return @1; } fn main(): int { }");
        Checks.fault(3, "fn f(): text { if 1 { return \"a\"; } while 1 { return @len(\"a\"); } } fn main(): int { }");
        Checks.fault(3, "fn f(a: int, b: text): int { a = @b; } fn main(): int { }");
        Checks.fault(3, "fn f(a: int, b: text): int { b = @a; } fn main(): int { }");
        Checks.right("fn f(a: int, b: text): text { if 1 { let c = a; } let c = b; return c; } fn main(): int { }");
        Checks.fault(3, "fn f(a: int, b: text): text { if 1 { let c = b; } let c = a; return @c; } fn main(): int { }");
    }

    private static void handed() {
        wrong("do f(@t);");
        wrong("do g(@i);");
        wrong("do h(@t, t);");
        wrong("do h(1, @2);");
        wrong("do h(@t, i);");
        wrong("do h(f(@t), i);");
        wrong("do h(1, @h(1, t));");
        wrong("do t & @f(1);");
        wrong("do @k(1) * 2;");
        ok("do h(h(f(1), k(2)), g(t & k(3)));");
        // FUNCTIONS further on, too
        Checks.fault(3, "fn main(): int { return f(@1); } fn f(t: text): int { }");
        Checks.fault(3, "fn main(): int { return @f(1); } fn f(n: int): text { }");
    }

    /** Of several, the first that ends; of those that end at one place the inner one. */
    private static void first() {
        wrong("do @t + i; do t + i;");
        wrong("do (@t + 1) & t;");
        wrong("do f(-@t) & 1;");
        wrong("do 1 + (@2 + 3 & t);");
        wrong("do t[-@t] & 1;");
        wrong("do @i & (t + 1);");
        wrong("do h(len(@i), len(i));");
        wrong("if @t { do 1 + t; }");
        wrong("do 1 == (@t + 1 & t);");
        wrong("do t == 1 + @t;");
        wrong("do t == (@i & t) + 1;");
        wrong("do @(t) + 1;");
        wrong("do 1 + @((t));");
        wrong("do -@(t & t);");
        wrong("do ((-@t));");
        wrong("do -(@1 & t);");
        wrong("do @t or (t and 1);");
        wrong("do 1 or (@t and 1) or t;");
        wrong("return -@t + t;");
    }

    public static void main(String[] args) {
        reckoned();
        compared();
        parts();
        statements();
        handed();
        first();
        Checks.end("TypesTest");
    }
}
