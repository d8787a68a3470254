import java.util.ArrayList;
import java.util.Arrays;
import java.util.HashMap;
import java.util.HashSet;
import java.util.List;
import java.util.Map;
import java.util.Set;
import java.util.regex.Matcher;
import java.util.regex.Pattern;

/**
 * The document once more, in its plainest form and by other means than the class: a tree, one walk for
 * each kind of fault, and a heap in which LIVE is found by looking through all that is live.
 */
final class Model {
    private static final Set<String> KEYWORDS = Set.of("and", "digits", "do", "else", "find", "fn", "if", "int",
        "len", "let", "or", "print", "return", "sign", "text", "while");
    private static final Pattern WORD = Pattern.compile(
        "[a-z][a-z0-9]*|[0-9]+|\"[ !#-~]*\"|==|!=|<=|[(){}\\[\\],:;=+\\-*/%&!<]");

    /** A fault of THE TEXT. */
    private static final class Fault extends RuntimeException {
        private static final long serialVersionUID = 1;
        final int at;

        Fault(int at) {
            this.at = at;
        }
    }

    /** A run ends at once. */
    private static final class Ends extends RuntimeException {
        private static final long serialVersionUID = 1;
        final int how;

        Ends(int how) {
            super(null, null, false, false);
            this.how = how;
        }
    }

    /** A return on its way to the call. */
    private static final class Back extends RuntimeException {
        private static final long serialVersionUID = 1;
        final Value value;

        Back(Value value) {
            super(null, null, false, false);
            this.value = value;
        }
    }

    /** An E, an S, a BLOCK or a FUNCTION. */
    static final class Node {
        final String kind;
        final int begin;
        int end;
        String name = "";
        int nameAt;
        String type = "int";
        final List<Node> kids = new ArrayList<>();

        Node(String kind, int begin) {
            this.kind = kind;
            this.begin = begin;
        }
    }

    final String text;
    int kind = 0;
    int place = -1;
    private int at = 0;
    private int behindWord = 0;
    private int statements = 0;
    private int brackets = 0;
    private int signs = 0;
    private int locals = 0;
    private final List<Node> functions = new ArrayList<>();
    private final List<Integer> nameFaults = new ArrayList<>();
    private final List<int[]> typeFaults = new ArrayList<>();

    Model(String text) {
        this.text = text;
        if (text.length() > 3000) {
            kind = 1;
            place = 3000;
            return;
        }
        try {
            program();
        } catch (Fault e) {
            kind = 1;
            place = e.at;
            return;
        }
        checkNames();
        if (!nameFaults.isEmpty()) {
            kind = 2;
            place = nameFaults.stream().min(Integer::compare).get();
            return;
        }
        for (Node f : functions) {
            checkTypes(f, f, new ArrayList<>());
        }
        if (!typeFaults.isEmpty()) {
            kind = 3;
            typeFaults.sort((a, b) -> a[1] != b[1] ? Integer.compare(a[1], b[1]) : Integer.compare(b[0], a[0]));
            place = typeFaults.get(0)[0];
        }
    }

    // ---- words

    private void blanks() {
        while (at < text.length() && (text.charAt(at) == ' ' || text.charAt(at) == '\n')) {
            at++;
        }
    }

    private String peekFrom(int from) {
        int i = from;
        while (i < text.length() && (text.charAt(i) == ' ' || text.charAt(i) == '\n')) {
            i++;
        }
        if (i >= text.length()) {
            return "";
        }
        Matcher m = WORD.matcher(text);
        m.region(i, text.length());
        if (!m.lookingAt()) {
            return null;
        }
        String w = m.group();
        char c = w.charAt(0);
        if (c == '"' && w.length() > 102 || c >= 'a' && c <= 'z' && w.length() > 12) {
            return null;
        }
        if (c >= '0' && c <= '9' && new java.math.BigInteger(w).bitLength() > 31) {
            return null;
        }
        return w;
    }

    private String peek() {
        blanks();
        String w = peekFrom(at);
        if (w == null) {
            throw new Fault(at);
        }
        return w;
    }

    private String take() {
        String w = peek();
        at += w.length();
        behindWord = at;
        return w;
    }

    private void need(String w) {
        if (!peek().equals(w) || w.isEmpty()) {
            throw new Fault(at);
        }
        take();
    }

    private static boolean isName(String w) {
        return !w.isEmpty() && w.charAt(0) >= 'a' && w.charAt(0) <= 'z' && !KEYWORDS.contains(w);
    }

    private String needName() {
        if (!isName(peek())) {
            throw new Fault(at);
        }
        return take();
    }

    private String needType() {
        String w = peek();
        if (!w.equals("int") && !w.equals("text")) {
            throw new Fault(at);
        }
        return take();
    }

    // ---- the grammar

    private void program() {
        do {
            peek();
            if (functions.size() == 20) {
                throw new Fault(at);
            }
            function();
        } while (!peek().isEmpty());
    }

    private void function() {
        peek();
        Node f = new Node("fn", at);
        need("fn");
        peek();
        f.nameAt = at;
        f.name = needName();
        need("(");
        locals = 0;
        while (!peek().equals(")")) {
            if (locals > 0) {
                need(",");
            }
            peek();
            if (locals == 6) {
                throw new Fault(at);
            }
            Node p = new Node("parameter", at);
            p.nameAt = at;
            p.name = needName();
            need(":");
            p.type = needType();
            f.kids.add(p);
            locals++;
        }
        need(")");
        need(":");
        f.type = needType();
        f.kids.add(block(1));
        functions.add(f);
    }

    private Node block(int depth) {
        int before = locals;
        peek();
        Node b = new Node("block", at);
        need("{");
        while (!peek().equals("}")) {
            b.kids.add(statement(depth));
        }
        need("}");
        locals = before;
        return b;
    }

    private Node statement(int depth) {
        String w = peek();
        Node s = new Node(isName(w) ? "give" : w, at);
        if (!isName(w) && !List.of("let", "if", "while", "return", "print", "do").contains(w)) {
            throw new Fault(at);
        }
        statements++;
        if (statements > 300 || depth > 8) {
            throw new Fault(at);
        }
        if (!isName(w)) {
            take();
        }
        if (w.equals("let") || isName(w)) {
            peek();
            if (w.equals("let") && locals == 30) {
                throw new Fault(at);
            }
            s.nameAt = at;
            s.name = needName();
            need("=");
        }
        signs = 0;
        brackets = 0;
        s.kids.add(expression(0));
        if (w.equals("if") || w.equals("while")) {
            s.kids.add(block(depth + 1));
            if (w.equals("if") && peek().equals("else")) {
                take();
                s.kids.add(block(depth + 1));
            }
        } else {
            need(";");
        }
        if (w.equals("let")) {
            locals++;
        }
        return s;
    }

    private static final List<List<String>> LEVELS = List.of(List.of("or"), List.of("and"),
        List.of("==", "!=", "<", "<="), List.of("+", "-", "&"), List.of("*", "/", "%"));

    private void sign() {
        signs++;
        if (signs > 40) {
            throw new Fault(at);
        }
    }

    private void open(String bracket) {
        if (peek().equals(bracket) && brackets == 8) {
            throw new Fault(at);
        }
        need(bracket);
        brackets++;
    }

    private void close(String bracket) {
        need(bracket);
        brackets--;
    }

    private Node made(String kind, int begin, Node... kids) {
        Node n = new Node(kind, begin);
        n.kids.addAll(Arrays.asList(kids));
        n.end = behindWord;
        return n;
    }

    private Node expression(int level) {
        if (level == 5) {
            return front();
        }
        Node left = expression(level + 1);
        while (LEVELS.get(level).contains(peek())) {
            sign();
            String w = take();
            Node right = expression(level + 1);
            left = made(w, left.begin, left, right);
            if (level == 2) {
                break;
            }
        }
        return left;
    }

    private Node front() {
        String w = peek();
        if (w.equals("-") || w.equals("!")) {
            int begin = at;
            sign();
            take();
            Node of = front();
            return made(w.equals("-") ? "negate" : "!", begin, of);
        }
        Node part = atom();
        while (peek().equals("[")) {
            sign();
            open("[");
            Node from = expression(0);
            if (peek().equals(":")) {
                take();
                Node to = expression(0);
                close("]");
                part = made("part", part.begin, part, from, to);
            } else {
                close("]");
                part = made("byte", part.begin, part, from);
            }
        }
        return part;
    }

    private Node atom() {
        String w = peek();
        int begin = at;
        if (!w.isEmpty() && (w.charAt(0) == '"' || w.charAt(0) >= '0' && w.charAt(0) <= '9')) {
            take();
            Node n = made(w.charAt(0) == '"' ? "quotes" : "number", begin);
            n.name = w;
            return n;
        }
        if (w.equals("(")) {
            open("(");
            Node n = expression(0);
            close(")");
            return made("( )", begin, n);
        }
        boolean word = List.of("len", "find", "digits", "sign").contains(w);
        if (!word && !isName(w)) {
            throw new Fault(at);
        }
        if (!word && !"(".equals(peekFrom(at + w.length()))) {
            take();
            Node n = made("local", begin);
            n.name = w;
            n.nameAt = begin;
            return n;
        }
        sign();
        take();
        open("(");
        List<Node> parts = new ArrayList<>();
        int due = word ? (w.equals("find") ? 2 : 1) : -1;
        if (due > 0 || !peek().equals(")")) {
            parts.add(expression(0));
            while (due < 0 ? peek().equals(",") : parts.size() < due) {
                need(",");
                parts.add(expression(0));
            }
        }
        close(")");
        Node n = made(word ? w : "call", begin, parts.toArray(new Node[0]));
        n.name = w;
        n.nameAt = begin;
        return n;
    }

    // ---- names

    private Node firstOf(String name) {
        for (Node f : functions) {
            if (f.name.equals(name)) {
                return f;
            }
        }
        return null;
    }

    private void checkNames() {
        boolean main = false;
        for (Node f : functions) {
            if (firstOf(f.name) != f) {
                nameFaults.add(f.nameAt);
            }
            main |= f.name.equals("main") && f.kids.size() == 1 && f.type.equals("int");
            names(f, new ArrayList<>());
        }
        if (nameFaults.isEmpty() && !main) {
            nameFaults.add(text.length());
        }
    }

    private void names(Node n, List<String> scope) {
        List<String> inner = n.kind.equals("block") || n.kind.equals("fn") ? new ArrayList<>(scope) : scope;
        for (Node kid : n.kids) {
            names(kid, inner);
        }
        if (n.kind.equals("parameter") || n.kind.equals("let")) {
            if (scope.contains(n.name)) {
                nameFaults.add(n.nameAt);
            }
            scope.add(n.name);
        } else if (n.kind.equals("local") || n.kind.equals("give")) {
            if (!scope.contains(n.name)) {
                nameFaults.add(n.nameAt);
            }
        } else if (n.kind.equals("call")) {
            Node f = firstOf(n.name);
            if (f == null || f.kids.size() - 1 != n.kids.size()) {
                nameFaults.add(n.nameAt);
            }
        }
    }

    // ---- types

    private void due(String type, Node n) {
        if (!n.type.equals(type)) {
            typeFaults.add(new int[] {n.begin, n.end});
        }
    }

    private void checkTypes(Node n, Node f, List<Node> scope) {
        List<Node> inner = n.kind.equals("block") || n.kind.equals("fn") ? new ArrayList<>(scope) : scope;
        for (Node kid : n.kids) {
            checkTypes(kid, f, inner);
        }
        Node a = n.kids.size() > 0 ? n.kids.get(0) : null;
        Node b = n.kids.size() > 1 ? n.kids.get(1) : null;
        switch (n.kind) {
            case "parameter": scope.add(n); break;
            case "let": n.type = a.type; scope.add(n); break;
            case "give": due(localOf(scope, n.name).type, a); break;
            case "if": case "while": due("int", a); break;
            case "return": due(f.type, a); break;
            case "local": n.type = localOf(scope, n.name).type; break;
            case "quotes": n.type = "text"; break;
            case "( )": n.type = a.type; break;
            case "&": due("text", a); due("text", b); n.type = "text"; break;
            case "==": case "!=": case "<": case "<=": due(a.type, b); break;
            case "+": case "-": case "*": case "/": case "%": case "and": case "or":
                due("int", a); due("int", b); break;
            case "negate": case "!": due("int", a); break;
            case "byte": due("text", a); due("int", b); break;
            case "part": due("text", a); due("int", b); due("int", n.kids.get(2)); n.type = "text"; break;
            case "len": due("text", a); break;
            case "find": due("text", a); due("text", b); break;
            case "digits": case "sign": due("int", a); n.type = "text"; break;
            case "call":
                Node g = firstOf(n.name);
                for (int i = 0; i < n.kids.size(); i++) {
                    due(g.kids.get(i).type, n.kids.get(i));
                }
                n.type = g.type;
                break;
            default: break;
        }
    }

    private static Node localOf(List<Node> scope, String name) {
        for (Node n : scope) {
            if (n.name.equals(name)) {
                return n;
            }
        }
        throw new IllegalStateException(name);
    }

    // ---- a run

    /** A BLOCK of the heap. */
    private static final class Block {
        int from;
        int places;
        int serial;
    }

    /** An int, or a text with all its bytes and the block that it is in, if any. */
    private static final class Value {
        final int number;
        final String bytes;
        final Block block;

        Value(int number, String bytes, Block block) {
            this.number = number;
            this.bytes = bytes;
            this.block = bytes != null && !bytes.isEmpty() ? block : null;
        }
    }

    private final List<Map<String, Value>> scopes = new ArrayList<>();
    private final List<Value> parts = new ArrayList<>();
    private final List<Integer> frames = new ArrayList<>();
    private List<Block> blocks = new ArrayList<>();
    private int heap;
    private int deep;
    int[] told = new int[8];
    String tells = "";
    private StringBuilder telling = new StringBuilder();
    int[] whose = new int[0];

    int run(int heapPlaces, int mostDeep) {
        heap = heapPlaces;
        deep = mostDeep;
        scopes.clear();
        parts.clear();
        frames.clear();
        blocks.clear();
        told = new int[8];
        telling = new StringBuilder();
        int how = 0;
        try {
            told[0] = call(firstOf("main"), List.of()).number;
        } catch (Ends e) {
            how = e.how;
        }
        sweep();
        tells = telling.toString();
        whose = new int[heap];
        Arrays.fill(whose, -1);
        for (Block b : blocks) {
            Arrays.fill(whose, b.from, b.from + b.places, b.serial);
        }
        told[1] = tells.length();
        int length = 0;
        for (int i = 0; i < heap; i++) {
            told[5] += whose[i] >= 0 ? 1 : 0;
            length = whose[i] >= 0 ? 0 : length + 1;
            told[6] += length == 1 ? 1 : 0;
            told[7] = Math.max(told[7], length);
        }
        return how;
    }

    private void sweep() {
        Set<Block> live = new HashSet<>();
        for (Map<String, Value> scope : scopes) {
            for (Value v : scope.values()) {
                live.add(v.block);
            }
        }
        for (Value v : parts) {
            live.add(v.block);
        }
        List<Block> kept = new ArrayList<>();
        for (Block b : blocks) {
            if (live.contains(b)) {
                kept.add(b);
            }
        }
        blocks = kept;
    }

    private Value make(String bytes) {
        sweep();
        boolean[] used = new boolean[heap];
        int taken = 0;
        for (Block b : blocks) {
            Arrays.fill(used, b.from, b.from + b.places, true);
            taken += b.places;
        }
        int need = bytes.length() + 1;
        int length = 0;
        for (int i = 0; i < heap; i++) {
            length = used[i] ? 0 : length + 1;
            if (length == need) {
                Block b = new Block();
                b.from = i - need + 1;
                b.places = need;
                b.serial = told[3]++;
                blocks.add(b);
                told[4] = Math.max(told[4], taken + need);
                return new Value(0, bytes, b);
            }
        }
        throw new Ends(2);
    }

    private void step(int many) {
        for (int i = 0; i < many; i++) {
            if (told[2] == 20000) {
                throw new Ends(4);
            }
            told[2]++;
        }
    }

    private Value call(Node f, List<Value> handed) {
        if (frames.size() >= deep) {
            throw new Ends(3);
        }
        step(1);
        frames.add(scopes.size());
        int mark = parts.size() - handed.size();
        Map<String, Value> scope = new HashMap<>();
        for (int i = 0; i < handed.size(); i++) {
            scope.put(f.kids.get(i).name, handed.get(i));
        }
        while (parts.size() > mark) {
            parts.remove(parts.size() - 1);
        }
        scopes.add(scope);
        Value answer = new Value(0, f.type.equals("text") ? "" : null, null);
        try {
            doBlock(f.kids.get(f.kids.size() - 1));
        } catch (Back e) {
            answer = e.value;
        }
        int base = frames.remove(frames.size() - 1);
        while (scopes.size() > base) {
            scopes.remove(scopes.size() - 1);
        }
        while (parts.size() > mark) {
            parts.remove(parts.size() - 1);
        }
        return answer;
    }

    private void doBlock(Node b) {
        int size = scopes.size();
        scopes.add(new HashMap<>());
        for (Node s : b.kids) {
            statementDone(s);
        }
        scopes.remove(size);
    }

    private Map<String, Value> scopeOf(String name) {
        for (int i = scopes.size() - 1; i >= frames.get(frames.size() - 1); i--) {
            if (scopes.get(i).containsKey(name)) {
                return scopes.get(i);
            }
        }
        throw new IllegalStateException(name);
    }

    private void statementDone(Node s) {
        step(1);
        Value v = value(s.kids.get(0));
        switch (s.kind) {
            case "let": scopes.get(scopes.size() - 1).put(s.name, v); break;
            case "give": scopeOf(s.name).put(s.name, v); break;
            case "if":
                if (v.number != 0) {
                    doBlock(s.kids.get(1));
                } else if (s.kids.size() > 2) {
                    doBlock(s.kids.get(2));
                }
                break;
            case "while":
                while (v.number != 0) {
                    step(1);
                    doBlock(s.kids.get(1));
                    v = value(s.kids.get(0));
                }
                break;
            case "return": throw new Back(v);
            case "print":
                String tell = v.bytes == null ? String.valueOf(v.number) : v.bytes;
                if (telling.length() + tell.length() > 2000) {
                    parts.add(v);
                    throw new Ends(5);
                }
                telling.append(tell);
                break;
            default: break;
        }
    }

    private static Value number(int n) {
        return new Value(n, null, null);
    }

    private static Value truth(boolean b) {
        return number(b ? 1 : 0);
    }

    private Value value(Node n) {
        switch (n.kind) {
            case "number": return number(Integer.parseInt(n.name));
            case "quotes": return new Value(0, n.name.substring(1, n.name.length() - 1), null);
            case "local": return scopeOf(n.name).get(n.name);
            case "( )": return value(n.kids.get(0));
            case "and":
                return truth(value(n.kids.get(0)).number != 0 && value(n.kids.get(1)).number != 0);
            case "or":
                return truth(value(n.kids.get(0)).number != 0 || value(n.kids.get(1)).number != 0);
            default: break;
        }
        int mark = parts.size();
        List<Value> v = new ArrayList<>();
        for (Node kid : n.kids) {
            Value one = value(kid);
            v.add(one);
            parts.add(one);
        }
        Value answer = n.kind.equals("call") ? call(firstOf(n.name), v) : of(n.kind, v);
        while (parts.size() > mark) {
            parts.remove(parts.size() - 1);
        }
        return answer;
    }

    private Value of(String kind, List<Value> v) {
        Value a = v.get(0);
        Value b = v.size() > 1 ? v.get(1) : a;
        switch (kind) {
            case "+": return number(a.number + b.number);
            case "-": return number(a.number - b.number);
            case "*": return number(a.number * b.number);
            case "/": return number((int) ((long) a.number / notZero(b.number)));
            case "%": return number((int) ((long) a.number % notZero(b.number)));
            case "negate": return number(0 - a.number);
            case "!": return truth(a.number == 0);
            case "==": return truth(order(a, b) == 0);
            case "!=": return truth(order(a, b) != 0);
            case "<": return truth(order(a, b) < 0);
            case "<=": return truth(order(a, b) <= 0);
            case "&":
                if (a.bytes.isEmpty() || b.bytes.isEmpty()) {
                    return a.bytes.isEmpty() ? b : a;
                }
                return make(a.bytes + b.bytes);
            case "byte":
                return number(b.number < 0 || b.number >= a.bytes.length() ? -1 : a.bytes.charAt(b.number));
            case "part":
                int from = held(b.number, a.bytes.length());
                int to = held(v.get(2).number, a.bytes.length());
                return new Value(0, to < from ? "" : a.bytes.substring(from, to), a.block);
            case "len": return number(a.bytes.length());
            case "find":
                step(a.bytes.length());
                return number(a.bytes.indexOf(b.bytes));
            case "digits": return make(String.valueOf(a.number));
            case "sign": return make(String.valueOf((char) (a.number & 255)));
            default: throw new IllegalStateException(kind);
        }
    }

    private static int held(int n, int most) {
        return n < 0 ? 0 : n > most ? most : n;
    }

    private static long notZero(int n) {
        if (n == 0) {
            throw new Ends(1);
        }
        return n;
    }

    private static int order(Value a, Value b) {
        return a.bytes == null ? Integer.compare(a.number, b.number) : a.bytes.compareTo(b.bytes);
    }
}
