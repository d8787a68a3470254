import java.util.Random;

/** The class against the Model, on texts and runs by chance (the same ones each time). */
final class ModelTest {
    private static final int[] HEAPS = {0, 1, 2, 3, 5, 8, 13, 20, 30, 45, 70, 100, 200, 400, 4000};
    private static int differences = 0;
    private static int rights = 0;
    private static final int[] KINDS = new int[4];
    private static final int[] ENDS = new int[6];

    private ModelTest() {
    }

    private static void differs(String text, String what, int due, int got) {
        Checks.same(what + " of " + text, due, got);
        if (due != got) {
            differences++;
        }
    }

    private static boolean readAlike(QuillEngine x, String text, Model model) {
        Checks.feed(x, text);
        differs(text, "read", model.kind, x.read());
        differs(text, "place", model.place, x.place());
        KINDS[model.kind]++;
        return model.kind == 0;
    }

    private static void runAlike(QuillEngine x, String text, Model model, int heap, int deep) {
        String call = "run(" + heap + ", " + deep + ") ";
        int due = model.run(heap, deep);
        ENDS[due]++;
        differs(text, call, due, x.run(heap, deep));
        for (int i = 0; i < 8; i++) {
            differs(text, call + "told(" + i + ")", model.told[i], x.told(i));
        }
        for (int i = 0; i < model.tells.length(); i++) {
            differs(text, call + "letter(" + i + ")", model.tells.charAt(i), x.letter(i));
        }
        for (int k = 0; k < heap; k++) {
            differs(text, call + "whose(" + k + ")", model.whose[k], x.whose(k));
        }
        differs(text, call + "wrong", 0, x.wrong());
    }

    private static void alike(String text) {
        QuillEngine x = new QuillEngine();
        Model model = new Model(text);
        differs(text, "kind", 0, model.kind);
        if (readAlike(x, text, model)) {
            for (int heap : HEAPS) {
                for (int deep = 1; deep <= 12; deep++) {
                    runAlike(x, text, model, heap, deep);
                }
            }
        }
    }

    /** All frames full of locals, with as many parts under way in each as the LIMITS let stand open. */
    private static void fullest() {
        StringBuilder f = new StringBuilder("fn f(a: text, b: text, c: text, d: text, e: text, n: int): int { ");
        f.append("let m = n - 1; ");
        for (int i = 1; i < 24; i++) {
            f.append("let v").append(i).append(" = sign(n + ").append(i).append("); ");
        }
        String inner = "if n <= 0 { return 1; } return ";
        String open = "n <= n + n * f(a, v1, v23, c, e & v2, ";
        String deepest = open.repeat(8) + "m" + ")".repeat(8);
        String main = " fn main(): int { return f(\"\", sign(1), \"c\", sign(2), \"e\" & sign(3), ";
        alike(f + inner + deepest + "; }" + main + "3); }");
        alike(f + inner + deepest + "; }" + main + "20); }");
        alike(f + "return " + deepest + "; }" + main + "1); }");
    }

    /** As many acts as the bytes can be: an act for nearly every byte. */
    private static void densest() {
        StringBuilder s = new StringBuilder("fn main():int{let a=1;");
        for (int i = 0; s.length() < 2880; i++) {
            s.append("a=").append(i % 10).append("+a-1*a".repeat(13)).append(";");
        }
        alike(s + "print a;return a;}");
        s = new StringBuilder("fn main():int{let a=1;");
        for (int i = 0; i < 290; i++) {
            s.append("a=-a+").append(i % 7).append(i % 3 == 0 ? "*a;" : ";");
        }
        alike(s + "print a;return a;}");
        s = new StringBuilder("fn main():int{let a=1;let t=\"ab\";");
        for (int i = 0; i < 90; i++) {
            s.append("if a{let b=t[a-1];a=b*a;}else{a=a+1or a;}");
            if (s.length() > 2900) {
                break;
            }
        }
        alike(s + "print a;return a;}");
    }

    public static void main(String[] args) {
        long from = args.length > 0 ? Long.parseLong(args[0]) : 1;
        int many = args.length > 1 ? Integer.parseInt(args[1]) : 3000;
        for (long seed = from; seed < from + many && differences == 0; seed++) {
            Random random = new Random(seed * 77);
            Programs programs = new Programs(seed);
            String text = programs.next();
            QuillEngine x = new QuillEngine();
            if (text.length() <= 3200) {
                Model model = new Model(text);
                if (readAlike(x, text, model)) {
                    rights++;
                    for (int i = 0; i < 4 && differences == 0; i++) {
                        int heap = random.nextInt(4) == 0 ? random.nextInt(300) : HEAPS[random.nextInt(HEAPS.length)];
                        runAlike(x, text, model, heap, 1 + random.nextInt(12));
                    }
                }
            }
            for (int i = 0; i < 12 && differences == 0; i++) {
                String broken = i < 4 ? programs.broken() : programs.twisted();
                if (broken.length() <= 3200) {
                    Model model = new Model(broken);
                    if (readAlike(x, broken, model)) {
                        runAlike(x, broken, model, random.nextInt(100), 12);
                    }
                }
            }
        }
        fullest();
        densest();
        System.out.println(rights + " programs, kinds of texts " + java.util.Arrays.toString(KINDS)
            + ", ends " + java.util.Arrays.toString(ENDS));
        Checks.end("ModelTest");
    }
}
