/** Promises 3 and 4: the LIMITS of THE TEXT, the last that is within and the first that is beyond. */
final class LimitsTest {
    private LimitsTest() {
    }

    private static String main(String inside) {
        return "fn main(): int { " + inside + " }";
    }

    private static void bytes() {
        String text = main("print 1;");
        Checks.right(text + " ".repeat(3000 - text.length()));
        Checks.faultAt(1, 3000, text + " ".repeat(3001 - text.length()));
        Checks.faultAt(1, 3000, text + " ".repeat(3200 - text.length()));
        // ahead of all: also of faults at lower places
        Checks.faultAt(1, 3000, "#".repeat(3001));
        Checks.faultAt(1, 0, "#".repeat(3000));
        Checks.faultAt(1, 3000, "fn f(): int { do \"" + "a".repeat(3100));
    }

    private static void functions() {
        StringBuilder text = new StringBuilder();
        for (int i = 0; i < 19; i++) {
            text.append("fn f").append(i).append("(): int { } ");
        }
        String twenty = text + "fn main(): int { return f18(); }";
        Checks.right(twenty);
        Checks.fault(1, twenty + " @fn g(): int { }");
        Checks.fault(1, twenty + " @fn");
        Checks.fault(1, twenty + " @fn #");
        Checks.fault(1, twenty + " @g");
    }

    private static void parameters() {
        Checks.right("fn f(a: int, b: int, c: text, d: int, e: int, g: text): int { } fn main(): int { }");
        Checks.fault(1, "fn f(a: int, b: int, c: text, d: int, e: int, g: text, @h: int): int { } fn main(): int { }");
        Checks.fault(1, "fn f(a: int, b: int, c: text, d: int, e: int, g: text, @): int { } fn main(): int { }");
        Checks.fault(2, "fn f(a: int, b: int, c: text, d: int, e: int, @a: text): int { } fn main(): int { }");
    }

    private static String lets(int from, int to) {
        StringBuilder s = new StringBuilder();
        for (int i = from; i < to; i++) {
            s.append("let v").append(i).append(" = ").append(i).append("; ");
        }
        return s.toString();
    }

    private static void locals() {
        Checks.right(main(lets(0, 30)));
        Checks.fault(1, main(lets(0, 30) + "let @w = 1;"));
        Checks.right(main(lets(0, 29) + "if 1 { let a = 1; } else { let a = 2; } while 0 { let b = 3; } let c = 4;"));
        Checks.fault(1, main(lets(0, 29) + "if 1 { let a = 1; let @b = 2; }"));
        Checks.fault(1, main(lets(0, 30) + "if 1 { if 1 { let @b = 2; } }"));
        String f = "fn f(a: int, b: int, c: text): int { ";
        Checks.right(f + lets(0, 27) + "} " + main(lets(0, 30)));
        Checks.fault(1, f + lets(0, 27) + "let @w = 1; } " + main(""));
        // the NAME is beyond the limit while the thirty are in scope: kind 1 ahead of the NAME's own fault
        Checks.fault(1, main(lets(0, 30) + "let @v0 = 1;"));
        // all thirty hold what they were given
        QuillEngine x = Checks.right(main(lets(0, 30) + "print v0 + v29; return v17;"));
        Checks.same("run", 0, x.run(0, 1));
        Checks.same("v0 + v29", "29", Checks.toldText(x));
        Checks.same("v17", 17, x.told(0));
    }

    private static void statements() {
        Checks.right(main("do 1;".repeat(300)));
        Checks.fault(1, main("do 1;".repeat(300) + "@do 1;"));
        Checks.fault(1, main("do 1;".repeat(300) + "@x = 1;"));
        Checks.fault(1, main("do 1;".repeat(300) + "@if 1 { }"));
        Checks.right(main("if 1{}".repeat(299) + "if 1 { } else { }"));
        Checks.fault(1, main("if 1{}".repeat(299) + "if 1 { } else { @do 1; }"));
        // of the whole text
        String f = "fn f(): int { " + "do 1;".repeat(150) + "} ";
        Checks.right(f + main("do 1;".repeat(150)));
        Checks.fault(1, f + main("do 1;".repeat(150) + "@print 1;"));
        // the 300 S are steps, too
        QuillEngine x = Checks.right(main("do 1;".repeat(300)));
        Checks.same("run", 0, x.run(0, 1));
        Checks.same("steps", 301, x.told(2));
    }

    private static String nest(String open, int many, String inside, String close) {
        return open.repeat(many) + inside + close.repeat(many);
    }

    private static void depth() {
        Checks.right(main(nest("if 1 { ", 7, "do 1;", " }")));
        Checks.right(main(nest("if 1 { ", 8, "", " }")));
        Checks.fault(1, main(nest("if 1 { ", 8, "@do 1;", " }")));
        Checks.fault(1, main(nest("while 0 { ", 8, "@x = 1;", " }")));
        Checks.fault(1, main(nest("if 0 { } else { ", 8, "@let x = 1;", " }")));
        Checks.fault(1, main(nest("if 1 { ", 8, "@if 1 { }", " }")));
        Checks.right(main(nest("if 1 { ", 8, "", " }") + nest("while 0 { ", 8, "", " }")));
        QuillEngine x = Checks.right(main(nest("if 1 { let a = 1; ", 1, nest("if 1 { ", 6, "print a;", " }"), " }")));
        Checks.same("run", 0, x.run(0, 1));
        Checks.same("steps", 10, x.told(2));
        Checks.same("told", "1", Checks.toldText(x));
    }

    private static void brackets() {
        Checks.right(main("do " + nest("(", 8, "1", ")") + ";"));
        Checks.fault(1, main("do " + "(".repeat(8) + "@(1" + ")".repeat(9) + ";"));
        Checks.right(main("let t = \"a\"; do " + nest("t[", 8, "0", "]") + ";"));
        Checks.fault(1, main("let t = \"a\"; do " + "t[".repeat(8) + "t@[0]" + "]".repeat(8) + ";"));
        Checks.right(main("do " + nest("len(digits(", 4, "1", "))") + ";"));
        Checks.fault(1, main("do " + "len(digits(".repeat(4) + "len@(\"a\")" + "))".repeat(4) + ";"));
        Checks.fault(1, main("do " + "len(digits(".repeat(4) + "\"a\"@[0]" + "))".repeat(4) + ";"));
        Checks.fault(1, main("do " + "len(digits(".repeat(4) + "find@(\"a\", \"b\")" + "))".repeat(4) + ";"));
        Checks.fault(1, main("do " + "(".repeat(8) + "main@()" + ")".repeat(8) + ";"));
        Checks.fault(1, main("do " + "(".repeat(8) + "sign@(1)" + ")".repeat(8) + ";"));
        // side by side is not within one another
        Checks.right(main("do " + nest("(", 8, "1", ")") + " + " + nest("(", 8, "1", ")") + ";"));
        Checks.right(main("do \"a\"[0 : 1][0 : 1][0 : 1][0 : 1][0 : 1][0 : 1][0 : 1][0 : 1][0 : 1][0];"));
        Checks.right("fn f(a: int, b: int): int { return " + nest("f(1, ", 8, "2", ")") + "; } " + main(""));
        Checks.fault(1, "fn f(a: int, b: int): int { return " + nest("f(1, ", 8, "f@(2, 3)", ")") + "; } " + main(""));
    }

    private static void signs() {
        Checks.right(main("do 1" + " + 1".repeat(40) + ";"));
        Checks.fault(1, main("do 1" + " + 1".repeat(40) + " @+ 1;"));
        for (String sign : new String[] {"-", "*", "/", "%", "and", "or", "==", "!=", "<", "<="}) {
            Checks.fault(1, main("do 1" + " + 1".repeat(40) + " @" + sign + " 1;"));
        }
        Checks.right(main("do \"a\"" + " & \"a\"".repeat(40) + ";"));
        Checks.fault(1, main("do \"a\"" + " & \"a\"".repeat(40) + " @& \"a\";"));
        Checks.right(main("do " + "-".repeat(40) + "1;"));
        Checks.fault(1, main("do " + "-".repeat(40) + "@-1;"));
        Checks.right(main("do " + "!".repeat(40) + "1;"));
        Checks.fault(1, main("do " + "!".repeat(40) + "@!1;"));
        Checks.right(main("do \"a\"" + "[0 : 1]".repeat(40) + ";"));
        Checks.fault(1, main("do \"a\"" + "[0 : 1]".repeat(40) + "@[0 : 1];"));
        Checks.right(main("do 1" + " + main()".repeat(20) + ";"));
        Checks.fault(1, main("do 1" + " + main()".repeat(20) + " @+ main();"));
        Checks.fault(1, main("do 1" + " + 1".repeat(39) + " + @main();"));
        Checks.fault(1, main("do 1" + " + 1".repeat(39) + " + @len(\"a\");"));
        Checks.fault(1, main("do 1" + " + 1".repeat(39) + " + @find(\"a\", \"b\");"));
        Checks.fault(1, main("do \"a\"" + " & \"a\"".repeat(39) + " & @digits(1);"));
        Checks.fault(1, main("do \"a\"" + " & \"a\"".repeat(39) + " & @sign(1);"));
        Checks.fault(1, main("do 1" + " + 1".repeat(39) + " + @-1;"));
        Checks.fault(1, main("do 1" + " + 1".repeat(39) + " + \"a\"@[0];"));
        // within brackets it is the same E
        Checks.right(main("do (1" + " + 1".repeat(19) + ") + (1" + " + 1".repeat(20) + ");"));
        Checks.fault(1, main("do (1" + " + 1".repeat(20) + ") + (1" + " + 1".repeat(19) + " @+ 1);"));
        Checks.right(main("do \"ab\"[0" + " + 1".repeat(39) + "];"));
        Checks.fault(1, main("do \"ab\"[0" + " + 1".repeat(39) + " @+ 1];"));
        // each S has its own
        Checks.right(main("do 1" + " + 1".repeat(40) + "; if 1" + " + 1".repeat(40) + " { do 1"
            + " + 1".repeat(40) + "; }"));
        // both at one [
        Checks.fault(1, main("do " + "-".repeat(40) + "(".repeat(8) + "\"a\"@[0]" + ")".repeat(8) + ";"));
    }

    /** The commas of a call and the : of a part stand between two, but are no SIGN (the word, or the [, is). */
    private static void noSigns() {
        String f = "fn f(a: int, b: int, c: int): int { return a; } ";
        Checks.right(f + main("do f(1, 2, 3)" + " + f(1, 2, 3)".repeat(19) + " + 1;"));
        Checks.fault(1, f + main("do f(1, 2, 3)" + " + f(1, 2, 3)".repeat(19) + " + 1 @+ 1;"));
    }

    /** Far beyond a limit the fault is still at the first one beyond it, and nothing overflows. */
    private static void farBeyond() {
        Checks.fault(1, "fn main(): int { do " + "(".repeat(8) + "@" + "(".repeat(2900));
        Checks.fault(1, "fn main(): int { do " + "-".repeat(40) + "@" + "-".repeat(2900));
        Checks.fault(1, "fn main(): int { do " + "t[".repeat(8) + "t@[" + "t[".repeat(1400));
        Checks.fault(1, "fn main(): int { do " + "f(".repeat(8) + "f@(" + "f(".repeat(1400));
        Checks.fault(1, "fn main(): int { do " + "len(".repeat(8) + "len@(" + "len(".repeat(700));
        Checks.fault(1, "fn main(): int { " + "if 1{".repeat(8) + "@" + "if 1{".repeat(500));
        Checks.fault(1, "fn main(): int { " + "x=1;".repeat(300) + "@" + "x=1;".repeat(400));
        Checks.fault(1, "fn main(): int { do 1" + "+1".repeat(40) + "@" + "+1".repeat(1400));
        Checks.fault(1, "fn main(): int { do t" + "[0]".repeat(40) + "@" + "[0]".repeat(900));
        Checks.fault(1, "fn f(a:int,a:int,a:int,a:int,a:int,a:int,@" + "a:int,".repeat(480));
        StringBuilder many = new StringBuilder();
        for (int i = 0; i < 20; i++) {
            many.append("fn f():int{}");
        }
        Checks.fault(1, many + "@" + "fn f():int{}".repeat(200));
        Checks.fault(1, "fn main(): int { " + lets(0, 30) + "let @a = 1; " + "let a = 1; ".repeat(200));
    }

    /** Nearly as many words as there are bytes: what is handed over has no limit but the bytes. */
    private static void manyWords() {
        String open = "fn main():int{do f(1";
        int more = (3000 - open.length() - 3) / 2;
        String text = open + ",1".repeat(more) + ");}";
        Checks.faultAt(2, 17, text);
        Checks.faultAt(1, text.length() - 1, text.substring(0, text.length() - 1));
        Checks.fault(1, open + ",1".repeat(more) + "@;}");
    }

    public static void main(String[] args) {
        bytes();
        functions();
        parameters();
        locals();
        statements();
        depth();
        brackets();
        signs();
        noSigns();
        farBeyond();
        manyWords();
        Checks.end("LimitsTest");
    }
}
