/** Promises 3 and 4, Terms 1: each sentence on words, the grammar and the LIMITS at its edges. */
final class EdgesOfText {
    private static final String[] KEYWORDS = {"and", "digits", "do", "else", "find", "fn", "if", "int", "len", "let",
        "or", "print", "return", "sign", "text", "while"};

    private EdgesOfText() {
    }

    static void all() {
        theText();
        names();
        numbers();
        quotes();
        signs();
        functions();
        statements();
        levels();
        parts();
        rows();
    }

    private static void theText() {
        Sentences.of("THE TEXT: bytes on the tape.");
        String program = "fn main(): int { print 7; }";
        for (int b = 0; b < 256; b++) {
            String text = program + (char) b;
            QuillEngine x = Checks.reading(text);
            boolean blank = b == 10 || b == 32;
            Checks.same("place of byte " + b + " behind a program", blank ? -1 : program.length(), x.place());
            Checks.same("read once more tells the empty text's", 1, x.read());
        }
        Sentences.of("WORDS, the longest that there are,");
        Edges.rightS("let a=1;do a<=1;", "let letx=1;let ifx=2;let a1=letx;", "do 1==1;do 1!=!1;", "do!!1;do- -1;");
        Edges.faultS(1, "do 1<=@=1;", "do 1==@=1;", "do 1!=@=1;", "do !@!=1;", "letx @;", "do 1<@<1;", "do 112 @3;",
            "print1@;", "if1 @{ }", "let a@: int = 1;");
        Edges.prints("12", "12");
        Edges.prints("-1", "1-2");
        Sentences.of("with blanks (10, 32) between, or nothing:");
        Edges.right("fn main():int{print(1);}", "fn\nmain\n(\n)\n:\nint\n{\nprint\n1\n;\n}",
            "  \n fn main ( ) : int { }\n  ",
            "fn main(): int {" + " \n".repeat(1400) + "}");
        for (int blank : new int[] {0, 9, 11, 12, 13, 31, 127, 133, 160, 255}) {
            Edges.faultS(1, "do 1;@" + (char) blank, "do@" + (char) blank + "1;", "@" + (char) blank);
            Edges.fault(1, "@" + (char) blank + "fn main(): int { }", "fn main(): int { }@" + (char) blank);
        }
        Edges.faultS(1, "do 1 @2;", "let a @b = 1;", "do 1 < @= 1;", "do 1 @= = 1;", "do 1 @! = 1;",
            "do \"a\" @\"b\";");
    }

    private static void names() {
        Sentences.of("a row of letters a .. z and digits that begins with a letter is a NAME (at most 12, else the"
            + " whole row is no word)");
        for (int n = 1; n <= 30; n++) {
            String name = "abcdefghijklmnopqrstuvwxyz0123456789".substring(0, n);
            String digits = "z" + "9876543210".repeat(3).substring(0, n - 1);
            for (String row : new String[] {name, digits, "z".repeat(n)}) {
                if (n <= 12) {
                    Edges.right("fn " + row + "(" + row + ": int): int { return " + row + "(" + row + "); } "
                        + Edges.main("let " + row + " = 1; " + row + " = " + row + "(" + row + ");"));
                } else {
                    Edges.fault(1, "fn @" + row + "(): int { }", "fn f(@" + row + ": int): int { }");
                    Edges.faultS(1, "let @" + row + " = 1;", "@" + row + " = 1;", "do @" + row + ";",
                        "do @" + row + "(1);", "do 1 @" + row + ";");
                }
            }
        }
        Edges.faultS(1, "let @printprintpri = 1;", "@returnreturn1;", "@whilewhilewhile 1 { }");
        Edges.faultS(1, "let a@B = 1;", "let @A = 1;", "let a@_b = 1;", "let @_a = 1;", "let a@" + (char) 228
            + " = 1;",
            "let @1a = 1;", "let @1 = 1;");
        namesApart();
        Sentences.of("but the KEYWORDS and digits do else find fn if int len let or print return sign text while;");
        for (String word : KEYWORDS) {
            Edges.fault(1, "fn @" + word + "(): int { }", "fn f(@" + word + ": int): int { }");
            Edges.faultS(1, "let @" + word + " = 1;", "do 1 + " + (isPart(word) ? word + "@;" : "@" + word + ";"));
            Edges.right("fn " + word + "x(x" + word + ": int): text { } " + Edges.main("let " + word + "1 = "
                + word + "x(1); let b" + word + " = 1; do " + word + "1; " + word + "1 = \"\";"));
        }
    }

    private static boolean isPart(String word) {
        return word.equals("digits") || word.equals("find") || word.equals("len") || word.equals("sign");
    }

    /** NAMES that differ in one sign are not the same, whichever it is. */
    private static void namesApart() {
        String all = "abcdefghijklmnopqrstuvwxyz0123456789";
        for (int i = 0; i < all.length(); i++) {
            for (int k = i + 1; k < all.length(); k++) {
                String left = "q" + all.charAt(i) + "r";
                String right = "q" + all.charAt(k) + "r";
                Edges.rightS("let " + left + " = 1; let " + right + " = \"\"; do -" + left + ";");
                Edges.faultS(2, "let " + left + " = 1; do @" + right + ";");
            }
        }
        for (char first = 'a'; first <= 'z'; first++) {
            for (char second : all.toCharArray()) {
                String name = "" + first + second;
                for (String local : new String[] {"ar", "f0", "z9"}) {
                    if (!name.equals(local) && !name.equals("do") && !name.equals("fn") && !name.equals("if") && !name.equals("or")) {
                        Edges.faultS(2, "let " + local + " = 1; do @" + name + ";");
                    }
                }
            }
        }
        for (int i = 0; i < 12; i++) {
            for (char c : all.substring(0, i == 0 ? 26 : 36).toCharArray()) {
                String name = "m".repeat(i) + c + "m".repeat(11 - i);
                if (c != 'm') {
                    Edges.rightS("let " + "m".repeat(12) + " = 1; let " + name + " = \"\";");
                }
            }
        }
        Edges.rightS("let a = 1; let aa = 2; let b = 3; let ab = 4; let ba = 5; let a1 = 6; let a10 = 7; let a01 = 8;");
        Edges.rightS("let abcdefghijkl = 1; let abcdefghijkm = 2; let bbcdefghijkl = 3; let abcdefghijk = 4;");
    }

    private static void numbers() {
        Sentences.of("a row of digits is a NUMBER (at most 2147483647, else it is no word);");
        for (String n : new String[] {"0", "1", "9", "10", "2147483639", "2147483640", "2147483646", "2147483647"}) {
            Edges.prints(n, n);
            Edges.prints(n, "0" + n);
            Edges.prints(n, "0".repeat(200) + n);
        }
        for (String n : new String[] {"2147483648", "2147483649", "2147483650", "3147483647", "9999999999",
            "21474836470", "21474836471", "4294967295", "4294967296", "4294967297", "9223372036854775807",
            "9223372036854775808", "18446744073709551615", "18446744073709551616", "18446744073709551617",
            "1" + "0".repeat(300)}) {
            Edges.faultS(1, "do @" + n + ";", "do 1 + @00" + n + ";", "let @" + n + " = 1;", "do -@" + n + ";");
        }
        Edges.faultS(1, "do 1@a;", "do 1@.5;", "do 1@_000;");
    }

    private static void quotes() {
        Sentences.of("QUOTES: \" then any bytes 32 .. 126 but \", then \"");
        for (int b = 0; b < 256; b++) {
            char c = (char) b;
            if (b >= 32 && b <= 126 && b != '"') {
                Edges.prints("a" + c + "b", "\"a" + c + "b\"");
            } else if (b == '"') {
                Edges.faultS(1, "do \"a\"@b\"; do 1;");
            } else {
                Edges.faultS(1, "do @\"a" + c + "b\";", "do @\"" + c + "\";", "do @\"ab" + c);
            }
        }
        Edges.prints("", "\"\"");
        Edges.fault(1, "fn main(): int { do @\"", "fn main(): int { do @\"a", "@\"", "fn main(): int { do 1 @\"a;");
        Edges.faultS(1, "do @\"a\nb\";", "do \"a\"@\"b\";", "do \"\" @\"\";", "do @\"a");
        Sentences.of("(at most 100 of them, else it is no word);");
        for (int n : new int[] {0, 1, 2, 99, 100}) {
            Edges.prints("q".repeat(n), "\"" + "q".repeat(n) + "\"");
        }
        for (int n : new int[] {101, 102, 127, 128, 200, 255, 256, 257, 1000}) {
            Edges.faultS(1, "do @\"" + "q".repeat(n) + "\";", "do 1 @\"" + "q".repeat(n) + "\";");
        }
    }

    private static void signs() {
        Sentences.of("the signs ( ) { } [ ] , : ; = + - * / % & ! == != < <=.");
        for (int b = 33; b < 127; b++) {
            char c = (char) b;
            boolean goesOn = "+-*/%&<([=!;".indexOf(c) >= 0;
            boolean word = c == '"' || c >= 'a' && c <= 'z' || c >= '0' && c <= '9';
            if (!goesOn && !word && c != '@') {
                Edges.faultS(1, "do 1 @" + c + " 2;");
            }
        }
        Edges.rightS("let t = \"\" ; do ( 1 ) + t [ 1 ] - t [ 1 : 1 ] [ 0 ] * 1 / 1 % 1 ; do t & t ; do ! 1 ;",
            "do 1 == 1 ; do 1 != 1 ; do 1 < 1 ; do 1 <= 1 ;", "do find ( \"\" , \"\" ) ; if 1 { }");
        Edges.faultS(1, "do 1 @> 1;", "do 1 @>= 1;", "do 1 <@> 1;", "do 1 &@& 1;", "do 1 @| 1;", "do 1 @~ 1;",
            "do 1 @^ 1;", "do 1 @? 1;", "do 1 @. 1;", "do @'a';", "do @$a;", "do @#;", "do @\\;", "do @`a`;");
        Checks.faultAt(1, 20, Edges.main("do @a;"));
    }

    private static void functions() {
        Sentences.of("PROGRAM: one or more FUNCTIONS:");
        Edges.fault(1, "@", " @", "\n\n\n@", "@1", "@do 1;", "@main", "@}");
        Edges.right("fn main(): int { }", "fn f(): int { } fn main(): int { }",
            "fn main(): int { } fn f(): text { }");
        Edges.fault(1, "fn main(): int { } @1", "fn main(): int { } @}", "fn main(): int { } @do 1;",
            "fn main(): int { } fn@", "fn main(): int { @fn f(): int { } }");
        Sentences.of("fn NAME ( [ PARAMETER { , PARAMETER } ] ) : TYPE BLOCK.");
        Edges.right("fn f(a: int): int { } fn g(a: int, b: text): text { } fn main(): int { }");
        Edges.fault(1, "fn @(", "fn main @)", "fn main@", "fn main(@", "fn main(a: int@", "fn main(a: int @a: int)",
            "fn main(a: int, @)", "fn main(@, a: int)", "fn main(a: int @; b: int)", "fn main(a: int,@, b)",
            "fn main() @int { }", "fn main()@", "fn main(): @{ }", "fn main():@", "fn main(): int @",
            "fn main(): int @;",
            "fn main(): int @return 1;", "fn main(): int @int { }");
        Sentences.of("PARAMETER: NAME : TYPE.");
        Edges.fault(1, "fn f(@: int)", "fn f(a @int)", "fn f(a: @)", "fn f(a: @a)", "fn f(a@)", "fn f(@1: int)",
            "fn f(@int a)", "fn f(a: int @= 1)");
        Sentences.of("TYPE: int | text.");
        Edges.right("fn f(a: int, b: text): text { } fn g(): int { } fn main(): int { }");
        for (String type : new String[] {"len", "digits", "sign", "ints", "1", "\"int\"", "(int)", "none", "fn"}) {
            Edges.fault(1, "fn main(): @" + type + " { }", "fn f(a: @" + type + "): int { }");
        }
        Sentences.of("BLOCK: { any number of S }.");
        Edges.rightS("", "do 1;", "do 1; do 2; do 3;", "if 1 { }", "if 1 { do 1; do 2; } else { }", "while 0 { }");
        Edges.fault(1, "fn main(): int {@", "fn main(): int { do 1;@", "fn main(): int { if 1 {@",
            "fn main(): int { if 1 { }@");
        Edges.faultS(1, "@;", "do 1;@;", "@{ }", "@1;", "@\"\";", "@else { }", "@int a = 1;", "@len(\"\");", "@(1);");
    }

    private static void statements() {
        Sentences.of("S: let NAME = E ; | NAME = E ; |");
        Edges.rightS("let a = 1;", "let a = 1; a = 2;", "let a = \"\"; a = a;");
        Edges.faultS(1, "let @= 1;", "let a @1;", "let a @== 1;", "let a = @;", "let a@;", "let a = 1 @let b = 1;",
            "let a = 1@}",
            "let a @: int = 1;", "a @1;", "a = @;", "a@;", "a = 1 @a = 1;", "a@[0] = 1;", "a@(1);", "a = @= 1;");
        Sentences.of("if E BLOCK [else BLOCK] | while E BLOCK |");
        Edges.rightS("if 1 { }", "if 1 { } else { }", "while 0 { }", "if(1){}else{}", "while(0){}");
        Edges.faultS(1, "if @{ }", "if 1 @;", "if 1 @do 1;", "if 1 { } else @do 1;", "if 1 { } else @if 1 { }",
            "if 1 { } else { } @else { }", "while @{ }", "while 0 @;", "while 0 @do 1;", "while 0 { } @else { }",
            "if 1 { }@;");
        Sentences.of("return E ; | print E ; | do E ;");
        Edges.rightS("return 1;", "print 1;", "do 1;", "print \"\";", "do \"\";", "return(1);");
        for (String word : new String[] {"return", "print", "do"}) {
            Edges.faultS(1, word + "@;", word + " 1 @2;", word + " 1@, 1;", word + " 1@}", word + " @let a = 1;", word
                + " 1@);");
            Edges.fault(1, "fn main(): int { " + word + " 1@", "fn main(): int { " + word + "@");
        }
    }

    private static void levels() {
        Sentences.of("E, the loosest first: ANY: ALL { or ALL };");
        Edges.prints("1", "1 or 0 and 0");
        Edges.prints("1", "0 and 0 or 1");
        Edges.prints("1", "0 or 0 or 0 or 5");
        Edges.faultS(1, "do 1 or @;", "do @or 1;", "do 1 or @or 1;", "do 1 or @and 1;");
        Sentences.of("ALL: LIKE { and LIKE };");
        Edges.prints("0", "1 and 1 == 0");
        Edges.prints("1", "2 == 2 and 3 < 4");
        Edges.faultS(1, "do 1 and @;", "do @and 1;", "do 1 and @or 1;");
        Sentences.of("LIKE: SUM [ (== | != | < | <=) SUM ];");
        Edges.prints("1", "1 + 2 == 3");
        Edges.prints("1", "\"a\" & \"b\" == \"ab\"");
        for (String left : new String[] {"==", "!=", "<", "<="}) {
            Edges.rightS("do 1 " + left + " 1;", "do (1 " + left + " 1) " + left + " 1;");
            Edges.faultS(1, "do 1 " + left + " @;", "do @" + left + " 1;");
            for (String right : new String[] {"==", "!=", "<", "<="}) {
                Edges.faultS(1, "do 1 " + left + " 1 @" + right + " 1;");
            }
        }
        Sentences.of("SUM: PRODUCT { (+ | - | &) PRODUCT };");
        Edges.prints("7", "1 + 2 * 3");
        Edges.prints("-5", "1 - 2 * 3");
        Edges.prints("abc", "\"a\" & \"b\" & \"c\"");
        Edges.faultS(1, "do 1 + @;", "do @+ 1;", "do 1 + @+ 1;", "do 1 - @* 1;", "do \"\" & @;", "do @& \"\";");
        Sentences.of("PRODUCT: FRONT { (* | / | %) FRONT };");
        Edges.prints("-6", "-2 * 3");
        Edges.prints("-6", "2 * -3");
        Edges.prints("3", "-7 / -2");
        Edges.faultS(1, "do 1 * @;", "do @* 1;", "do @/ 1;", "do @% 1;", "do 1 / @/ 1;");
        Sentences.of("FRONT: - FRONT | ! FRONT | PART;");
        Edges.prints("5", "--5");
        Edges.prints("-1", "-!!7");
        Edges.prints("-97", "-\"a\"[0]");
        Edges.faultS(1, "do -@;", "do !@;", "do -@* 1;", "do !@);");
    }

    private static void parts() {
        Sentences.of("PART: ATOM { [ E ] | [ E : E ] };");
        Edges.prints("98", "\"abc\"[0 : 2][1]");
        Edges.prints("c", "\"abc\"[1 : 3][1 : 2]");
        Edges.prints("98", "(\"a\" & \"b\")[1]");
        Edges.faultS(1, "do \"\"[@];", "do \"\"[1 @;", "do \"\"[@: 1];", "do \"\"[1 : @];", "do \"\"[1 : 1 @: 1];",
            "do \"\"[1@, 1];", "do \"\"[1@);", "do @[1];", "do 1@];");
        Sentences.of("ATOM: NUMBER | QUOTE | NAME | NAME ( [ E { , E } ] ) | ( E ) |");
        Edges.right("fn f(): int { } fn g(a: int): int { } fn h(a: int, b: int): int { } "
            + Edges.main("let a = 1; do 1; do \"\"; do a; do f(); do g(1); do h(1, 2); do (1); do ((1));"));
        Edges.faultS(1, "do (@);", "do f(@, 1);", "do f(1, @);", "do f(1 @1);", "do f(1@;", "do (1@;",
            "do (1@, 1);", "do (f)@(1);", "do 1@(1);", "do \"\"@(1);", "do @);", "do (1@];");
        Sentences.of("len ( E ) | find ( E , E ) | digits ( E ) | sign ( E ).");
        Edges.rightS("do len(\"\");", "do find(\"\", \"\");", "do digits(1);", "do sign(1);");
        for (String word : new String[] {"len", "digits", "sign", "find"}) {
            Edges.faultS(1, "do " + word + "@;", "do " + word + " @1;", "do " + word + "(@);", "do " + word + "@[1];",
                "do " + word + "(@, 1);");
        }
        Edges.faultS(1, "do len(1@, 1);", "do digits(1@, 1);", "do sign(1@, 1);", "do find(1@);", "do find(1, @);",
            "do find(1, 1@, 1);", "do find(1 @1);");
    }

    private static void rows() {
        Sentences.of("Rows go from the left.");
        Edges.prints("-4", "1 - 2 - 3");
        Edges.prints("2", "1 - 2 + 3");
        Edges.prints("1", "100 / 10 / 10");
        Edges.prints("20", "7 / 3 * 10");
        Edges.prints("2", "17 % 10 % 5");
        Edges.prints("6", "7 * 8 % 10");
        // the block of "ab" is made ahead of that of "abc": 3 places, then 4 more
        Edges.makes(2, 7, "do \"a\" & \"b\" & \"c\";");
        Edges.faultS(3, "do @1 + 1 & \"\";", "do @\"\" & \"\" + 1;");
    }
}
