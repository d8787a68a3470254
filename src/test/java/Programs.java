import java.util.ArrayList;
import java.util.List;
import java.util.Random;

/** Texts by chance (always the same ones for one seed): most are programs without a fault. */
final class Programs {
    private static final String[] ANY_WORDS = {"fn", "let", "if", "else", "while", "return", "print", "do", "and",
        "or", "len", "find", "digits", "sign", "int", "text", "(", ")", "{", "}", "[", "]", ",", ":", ";", "=", "+",
        "-", "*", "/", "%", "&", "!", "==", "!=", "<", "<=", "a", "b", "main", "f0", "x1", "0", "1", "7",
        "2147483647", "2147483648", "\"\"", "\"ab\"", "\"", "abcdefghijkl", "abcdefghijklm", "#", "."};

    private final Random random;
    private final List<String> words = new ArrayList<>();
    private final List<String[]> heads = new ArrayList<>();
    private List<String[]> scope = new ArrayList<>();
    private int function;
    private int named;
    private int room;

    Programs(long seed) {
        random = new Random(seed);
    }

    private int upTo(int n) {
        return random.nextInt(n);
    }

    private boolean oneIn(int n) {
        return random.nextInt(n) == 0;
    }

    private void add(String... more) {
        words.addAll(List.of(more));
    }

    /** A program that is, for most seeds, without a fault. */
    String next() {
        words.clear();
        heads.clear();
        named = 0;
        room = 20 + upTo(oneIn(8) ? 200 : 40);
        int count = oneIn(10) ? 1 + upTo(19) : 1 + upTo(4);
        int main = upTo(count);
        for (int i = 0; i < count; i++) {
            heads.add(head(i == main ? "main" : "f" + i));
        }
        for (function = 0; function < count; function++) {
            function();
        }
        return joined();
    }

    /** The latest program with some words or bytes changed. */
    String broken() {
        List<String> kept = new ArrayList<>(words);
        int changes = 1 + upTo(3);
        for (int i = 0; i < changes && !words.isEmpty(); i++) {
            int at = upTo(words.size());
            switch (upTo(6)) {
                case 0: words.remove(at); break;
                case 1: words.add(at, words.get(upTo(words.size()))); break;
                case 2: words.set(at, words.get(upTo(words.size()))); break;
                case 3: words.set(at, ANY_WORDS[upTo(ANY_WORDS.length)]); break;
                case 4: words.add(at, ANY_WORDS[upTo(ANY_WORDS.length)]); break;
                default: words.subList(at, words.size()).clear(); break;
            }
        }
        StringBuilder text = new StringBuilder(joined());
        if (oneIn(4) && text.length() > 0) {
            text.setCharAt(upTo(text.length()), (char) upTo(256));
        }
        words.clear();
        words.addAll(kept);
        return text.toString();
    }

    /** The latest program with some words changed for others of their kind, so that the grammar still holds. */
    String twisted() {
        List<String> kept = new ArrayList<>(words);
        int changes = 1 + upTo(3);
        for (int i = 0; i < 40 && changes > 0; i++) {
            int at = upTo(words.size());
            String other = otherOfItsKind(words.get(at));
            if (!other.equals(words.get(at))) {
                words.set(at, other);
                changes--;
            }
        }
        String text = joined();
        words.clear();
        words.addAll(kept);
        return text;
    }

    private String otherOfItsKind(String w) {
        char c = w.charAt(0);
        if (w.equals("int") || w.equals("text")) {
            return w.equals("int") ? "text" : "int";
        }
        if (w.equals("+") || w.equals("&")) {
            return w.equals("+") ? "&" : "+";
        }
        if (w.equals("len") || w.equals("digits")) {
            return w.equals("len") ? "digits" : "len";
        }
        if (c == '"' || c >= '0' && c <= '9') {
            return c == '"' ? "3" : "\"ab\"";
        }
        if (!List.of(ANY_WORDS).subList(0, 16).contains(w) && c >= 'a' && c <= 'z') {
            String other = words.get(upTo(words.size()));
            boolean name = other.charAt(0) >= 'a' && other.charAt(0) <= 'z'
                && !List.of(ANY_WORDS).subList(0, 16).contains(other);
            return name ? other : oneIn(4) ? "f0" : w;
        }
        return w;
    }

    private String joined() {
        StringBuilder text = new StringBuilder();
        boolean tight = oneIn(3);
        for (String w : words) {
            if (text.length() > 0 && !(tight && canTouch(text.charAt(text.length() - 1), w.charAt(0)))) {
                text.append(oneIn(9) ? "\n" : oneIn(12) ? "  " : " ");
            }
            text.append(w);
        }
        return text.toString();
    }

    private static boolean canTouch(char left, char right) {
        boolean wordLeft = Character.isLetterOrDigit(left);
        boolean wordRight = Character.isLetterOrDigit(right);
        return !(wordLeft && wordRight) && !("=!<".indexOf(left) >= 0 && right == '=');
    }

    private String type() {
        return oneIn(3) ? "int" : "text";
    }

    private String[] head(String name) {
        if (name.equals("main")) {
            return new String[] {name, "int"};
        }
        String[] head = new String[2 + upTo(oneIn(6) ? 7 : 3)];
        head[0] = name;
        for (int i = 1; i < head.length; i++) {
            head[i] = type();
        }
        return head;
    }

    private void function() {
        String[] head = heads.get(function);
        scope = new ArrayList<>();
        add("fn", head[0], "(");
        for (int i = 2; i < head.length; i++) {
            if (i > 2) {
                add(",");
            }
            String name = "p" + i;
            add(name, ":", head[i]);
            scope.add(new String[] {name, head[i]});
        }
        add(")", ":", head[1]);
        block(1, 1 + upTo(7), null);
    }

    private void block(int depth, int many, String counter) {
        int mark = scope.size();
        add("{");
        for (int i = 0; i < many; i++) {
            statement(depth);
        }
        if (counter != null && !oneIn(20)) {
            add(counter, "=", counter, "+", "1", ";");
        }
        if (counter == null && depth == 1 && !oneIn(5)) {
            add("return");
            expression(heads.get(function)[1], 3);
            add(";");
        }
        add("}");
        while (scope.size() > mark) {
            scope.remove(scope.size() - 1);
        }
    }

    private void statement(int depth) {
        int which = upTo(20);
        if (which < 5 || scope.isEmpty()) {
            let(type());
        } else if (which < 10) {
            String[] local = scope.get(upTo(scope.size()));
            if (local[0].startsWith("k") && !oneIn(30)) {
                return;
            }
            add(local[0], "=");
            expression(local[1], 1 + upTo(4));
            add(";");
        } else if (which < 13) {
            add("print");
            expression(type(), 1 + upTo(4));
            add(";");
        } else if (which < 14) {
            add("do");
            expression(type(), 1 + upTo(4));
            add(";");
        } else if (which < 15 && oneIn(3)) {
            add("return");
            expression(heads.get(function)[1], 1 + upTo(3));
            add(";");
        } else if (depth < 8 && words.size() < 400) {
            nested(depth, which);
        }
    }

    private void let(String type) {
        String name = "v" + named++;
        add("let", name, "=");
        expression(type, 1 + upTo(4));
        add(";");
        scope.add(new String[] {name, type});
    }

    private void nested(int depth, int which) {
        if (which < 18) {
            add("if");
            expression("int", 3);
            block(depth + 1, upTo(4), null);
            if (oneIn(2)) {
                add("else");
                block(depth + 1, upTo(4), null);
            }
        } else {
            String name = "k" + named++;
            add("let", name, "=", "0", ";");
            scope.add(new String[] {name, "int"});
            add("while", name, "<", String.valueOf(1 + upTo(oneIn(20) ? 3000 : 9)));
            block(depth + 1, upTo(5), name);
        }
    }

    private void expression(String type, int depth) {
        if (oneIn(2000)) {
            expression(type.equals("int") ? "text" : "int", depth);
        } else if (words.size() > 900 || depth <= 0) {
            leaf(type);
        } else if (oneIn(4)) {
            leaf(type);
        } else if (oneIn(12)) {
            call(type, depth);
        } else if (type.equals("int")) {
            number(depth);
        } else {
            text(depth);
        }
    }

    private void leaf(String type) {
        List<String> fitting = new ArrayList<>();
        for (String[] local : scope) {
            if (local[1].equals(type)) {
                fitting.add(local[0]);
            }
        }
        if (!fitting.isEmpty() && !oneIn(3)) {
            add(fitting.get(upTo(fitting.size())));
        } else if (type.equals("int")) {
            add(oneIn(20) ? "2147483647" : String.valueOf(upTo(oneIn(4) ? 100000 : 6)));
        } else {
            StringBuilder quotes = new StringBuilder("\"");
            int count = upTo(oneIn(9) ? room : 4);
            for (int i = 0; i < Math.min(count, 100); i++) {
                quotes.append((char) ('a' + upTo(3)));
            }
            add(quotes.append('"').toString());
        }
    }

    private void call(String type, int depth) {
        int from = oneIn(6) ? 0 : function + 1;
        for (int i = from; i < heads.size(); i++) {
            String[] head = heads.get(i);
            if (head[1].equals(type) && !oneIn(4)) {
                add(head[0], "(");
                for (int p = 2; p < head.length; p++) {
                    if (p > 2) {
                        add(",");
                    }
                    expression(head[p], depth - 2);
                }
                add(")");
                return;
            }
        }
        leaf(type);
    }

    private void number(int depth) {
        int d = depth - 1;
        switch (upTo(11)) {
            case 0: two("int", oneIn(2) ? "+" : "-", d); break;
            case 1: two("int", oneIn(3) ? "*" : oneIn(2) ? "/" : "%", d); break;
            case 2: two("int", oneIn(2) ? "and" : "or", d); break;
            case 3: two(type(), oneIn(2) ? "<" : "<=", d); break;
            case 4: two(type(), oneIn(2) ? "==" : "!=", d); break;
            case 5: add(oneIn(2) ? "-" : "!"); atom("int", d); break;
            case 6: case 7: add("len", "("); expression("text", d); add(")"); break;
            case 8: add("find", "("); expression("text", d); add(","); expression("text", d); add(")"); break;
            default: atom("text", d); add("["); expression("int", d); add("]"); break;
        }
    }

    private void text(int depth) {
        int d = depth - 1;
        switch (upTo(9)) {
            case 0: add("digits", "("); expression("int", d); add(")"); break;
            case 1: add("sign", "("); expression("int", d); add(")"); break;
            case 2: case 3: case 4:
                atom("text", d);
                add("[");
                expression("int", d);
                add(":");
                expression("int", d);
                add("]");
                break;
            default: two("text", "&", d); break;
        }
    }

    private void two(String type, String sign, int depth) {
        atom(type, depth);
        add(sign);
        atom(type, depth);
    }

    private void atom(String type, int depth) {
        if (depth > 0 && !oneIn(3)) {
            add("(");
            expression(type, depth);
            add(")");
        } else if (oneIn(8)) {
            expression(type, depth);
        } else {
            leaf(type);
        }
    }
}
