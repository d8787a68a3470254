/** What the tests of the sentences share: short ways to a program and to what its run tells. */
final class Edges {
    private Edges() {
    }

    static String main(String inside) {
        return "fn main(): int { " + inside + " }";
    }

    static void right(String... texts) {
        for (String text : texts) {
            Checks.right(text);
        }
    }

    static void rightS(String... all) {
        for (String s : all) {
            Checks.right(main(s));
        }
    }

    /** A fault of that kind at the mark @ of each text. */
    static void fault(int kind, String... marked) {
        for (String text : marked) {
            Checks.fault(kind, text);
        }
    }

    static void faultS(int kind, String... marked) {
        for (String s : marked) {
            Checks.fault(kind, main(s));
        }
    }

    static QuillEngine run(int ends, int heap, int deep, String text) {
        QuillEngine x = Checks.right(text);
        Checks.same("run(" + heap + ", " + deep + ") of " + text, ends, x.run(heap, deep));
        Checks.same("wrong of " + text, 0, x.wrong());
        if (ends != 0) {
            Checks.same("what main returned of " + text, 0, x.told(0));
        }
        return x;
    }

    /** All bytes that the S tell, in a run that main ends. */
    static void tells(String due, String s) {
        Checks.same("told by " + s, due, Checks.toldText(run(0, 4000, 12, main(s))));
    }

    /** What print tells of an E. */
    static void prints(String due, String e) {
        tells(due, "print " + e + ";");
    }

    static String map(QuillEngine x, int heap) {
        StringBuilder map = new StringBuilder();
        for (int k = 0; k < heap; k++) {
            int owner = x.whose(k);
            map.append(owner < 0 ? "." : String.valueOf((char) ('0' + owner)));
        }
        return map.toString();
    }

    /** Whose the places are as the S have been done: a division by 0 behind them lets all stand. */
    static void places(String due, String functions, String s) {
        QuillEngine x = run(1, due.length(), 12, functions + main(s + " do 1 / 0;"));
        Checks.same("places behind " + s, due, map(x, due.length()));
    }

    static void places(String due, String s) {
        places(due, "", s);
    }

    /** Blocks made, and the most places taken at once, by the S in a run that main ends. */
    static void makes(int made, int most, String functions, String s) {
        QuillEngine x = run(0, 4000, 12, functions + main(s));
        Checks.same("blocks made by " + s, made, x.told(3));
        Checks.same("most places taken by " + s, most, x.told(4));
        Checks.same("places taken behind " + s, 0, x.told(5));
    }

    static void makes(int made, int most, String s) {
        makes(made, most, "", s);
    }

    /** STEPS that went by in the S, without the one of main. */
    static void steps(int due, String functions, String s) {
        Checks.same("steps of " + s, due + 1, run(0, 4000, 12, functions + main(s)).told(2));
    }

    static void steps(int due, String s) {
        steps(due, "", s);
    }

    /** S that take so many STEPS, as of 3 on, and leave no block. */
    static String pass(int steps) {
        int rounds = (steps - 2) / 2;
        String odd = steps % 2 == 0 ? "" : "do 0; ";
        return "let pass = 0; while pass < " + rounds + " { pass = pass + 1; } " + odd;
    }
}
