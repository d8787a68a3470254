/** Promises 3 and 4: faults of THE TEXT (kind 1), each at the place that the mark @ stands at. */
final class TextTest {
    private TextTest() {
    }

    private static void ok(String text) {
        Checks.right(text);
    }

    private static void okS(String s) {
        ok("fn main(): int { " + s + " }");
    }

    private static void wrong(String marked) {
        Checks.fault(1, marked);
    }

    private static void wrongS(String s) {
        wrong("fn main(): int { " + s + " }");
    }

    /** An E in which the names i, j (int) and t, u (text) and the functions f(int): int, g(): text stand. */
    private static String around(String e) {
        return "fn f(n: int): int { return n; } fn g(): text { return \"g\"; } fn main(): int { let i = 1; let j = 2;"
            + " let t = \"t\"; let u = \"u\"; do " + e + "; return 0; }";
    }

    private static void okE(String e) {
        ok(around(e));
    }

    private static void wrongE(String e) {
        wrong(around(e));
    }

    private static void words() {
        okS("let abcdefghijkl = 1; let a1b2c3 = 2; let z = abcdefghijkl + a1b2c3;");
        wrongS("let @abcdefghijklm = 1;");
        wrongS("let @a234567890123 = 1;");
        wrongS("do @abcdefghijklmnopqrstuvwxyz;");
        okS("do 2147483647; do 0; do 007; do 00000000000000000002147483647;");
        wrongS("do @2147483648;");
        wrongS("do @99999999999999999999999999999999;");
        wrongS("do @00000000000000000002147483648;");
        wrongS("do 12@ab;");
        wrongS("let @1a = 2;");
        okS("do \"\"; do \" !#~\"; do \"(){}[]\\'\";");
        okS("do \"" + "q".repeat(100) + "\";");
        wrongS("do @\"" + "q".repeat(101) + "\";");
        wrongS("do @\"ab");
        wrong("fn main(): int { do @\"");
        wrongS("do @\"a\nb\";");
        wrongS("do @\"a" + (char) 127 + "b\";");
        wrongS("do @\"a" + (char) 31 + "b\";");
        wrongS("do @\"a" + (char) 200 + "b\";");
        for (char c : new char[] {'#', '$', '\'', '.', '>', '?', '|', '~', '^', '\\', '_', '`', 'A', 'Z', 9, 13, 0,
            127, 128, 255}) {
            wrongS("do 1 @" + c + " 2;");
            wrong("@" + c);
        }
        wrongS("do 1 @> 2;");
        wrongS("do 1 < @< 2;");
        wrongS("do 1 <= @= 2;");
        wrongS("do 1 @= = 2;");
        okS("do 1!=2;do 1==-2;do 1<=!2;do 1<-2;do 1- -2;do!!1;");
        wrongS("do 1 @! = 2;");
        ok("fn\nmain\n(\n)\n:\nint\n{\nreturn\n1\n;\n}\n");
        ok("fn main():int{return(1);}");
        ok("fn main():int{let letx=1;if letx{print 1;}else{print 2;}}");
        ok("  \n fn main(): int { }  \n ");
        wrong("fn main(): int {@\t}");
    }

    private static void functions() {
        wrong("@");
        wrong("  \n @");
        wrong("@main");
        wrong("@{");
        wrong("fn@");
        wrong("fn  @");
        wrong("fn @(");
        wrong("fn @fn");
        wrong("fn @print(): int { }");
        wrong("fn main @: int { }");
        wrong("fn main(@");
        wrong("fn main(@,");
        wrong("fn main(@1");
        wrong("fn main(a@)");
        wrong("fn main(a:@)");
        wrong("fn main(a: @b");
        wrong("fn main(a: int@");
        wrong("fn main(a: int @b: int): int { }");
        wrong("fn main(a: int,@)");
        wrong("fn main(@let: int)");
        wrong("fn main() @{");
        wrong("fn main(): @{ }");
        wrong("fn main(): @main { }");
        wrong("fn main(): int @return 1;");
        wrong("fn main(): int @");
        wrong("fn main(): int {@");
        wrong("fn main(): int { } @}");
        wrong("fn main(): int { } @main");
        wrong("fn main(): int { } @1");
        wrong("fn main(): int { } fn@");
        wrong("fn main(): int { @fn f(): int { } }");
    }

    private static void statements() {
        okS("");
        okS("let a = 1; a = 2; if a { } if a { } else { } while 0 { } print a; do a; return a;");
        wrongS("@;");
        wrongS("@1;");
        wrongS("@{ }");
        wrongS("@else { }");
        wrongS("@len(\"a\");");
        wrongS("@\"a\";");
        wrongS("@int a = 1;");
        wrongS("let @= 1;");
        wrongS("let @1 = 1;");
        wrongS("let @while = 1;");
        wrongS("let a @1;");
        wrongS("let a @== 1;");
        wrongS("let a @: int = 1;");
        wrongS("let a = @;");
        wrong("fn main(): int { let a = 1 @}");
        wrongS("let a = 1 @let b = 2;");
        wrongS("a @(1);");
        wrongS("a@[1] = 2;");
        wrongS("a = @;");
        wrongS("if @{ }");
        wrongS("if 1 @print 1;");
        wrongS("if 1@;");
        wrongS("if 1 { } else @if 1 { }");
        wrongS("if 1 { } else { } @else { }");
        wrongS("while @{ }");
        wrongS("while 1 @;");
        wrongS("while 1 { } @else { }");
        wrongS("return@;");
        wrongS("return 1@, 2;");
        wrongS("print@;");
        wrongS("print 1 @2;");
        wrongS("do@;");
        wrongS("do 1@);");
        wrong("fn main(): int { do 1@");
        wrong("fn main(): int { do 1;@");
        wrong("fn main(): int { if 1 { @");
    }

    private static void expressions() {
        okE("i or j and i == j + i * -i");
        okE("t & u & t == u & t");
        okE("f(f(f(i)))");
        okE("g()[0 : 1][0] + len(g()) + find(t, u) + len(digits(1)) + len(sign(1))");
        okE("(((i)))");
        okE("- - ! ! - i");
        okE("i - - j");
        okE("(i < j) < i");
        wrongE("i < j @< i");
        wrongE("i == j @== i");
        wrongE("i <= j @!= i");
        okE("(i == j) == (i != j)");
        okE("i == j and i < j or i <= j");
        wrongE("i + @");
        wrongE("i + @* j");
        wrongE("@* i");
        wrongE("@+ i");
        wrongE("@& t");
        wrongE("@and i");
        wrongE("i and @or j");
        wrongE("i @i");
        wrongE("i @t");
        wrongE("(@)");
        wrongE("(i@");
        wrongE("(i@]");
        wrongE("(i@, j)");
        wrongE("f(@, i)");
        wrongE("f(i @i)");
        wrongE("f(i,@)");
        wrongE("f(i@]");
        wrongE("f(@");
        wrongE("t[@]");
        wrongE("t[@:]");
        wrongE("t[i:@]");
        wrongE("t[@: i]");
        wrongE("t[i : j @: i]");
        wrongE("t[i@)");
        wrongE("t[i@, j]");
        wrongE("len @t");
        wrongE("len(@)");
        wrongE("len(t@, u)");
        wrongE("len@[t]");
        wrongE("find(t@)");
        wrongE("find(@)");
        wrongE("find(t, u@, t)");
        wrongE("find(t,@)");
        wrongE("digits(@)");
        wrongE("digits(i@, i)");
        wrongE("sign(@)");
        wrongE("sign(i@, i)");
        wrongE("@let");
        wrongE("@int");
        wrongE("@if i { }");
        wrongE("i @= j");
        wrongE("-@");
        wrongE("!@)");
        wrongE("i [1] @f(i)");
        wrongE("(f)@(i)");
    }

    /** Cut behind any of its words but the last of a FUNCTION, the text ends too soon: its length is the place. */
    private static void endsTooSoon() {
        String text = around("f ( i ) + t [ 0 : 1 ] [ 0 ] - find ( t , u )");
        for (int n = 0; n < text.length(); n++) {
            boolean behindWord = n == 0 || text.charAt(n) == ' ' || text.charAt(n - 1) == ' ';
            String part = text.substring(0, n);
            if (behindWord && !(part.trim().endsWith("}") && !part.contains("main"))) {
                Checks.faultAt(1, n, part);
            }
        }
    }

    public static void main(String[] args) {
        words();
        functions();
        statements();
        expressions();
        endsTooSoon();
        Checks.end("TextTest");
    }
}
