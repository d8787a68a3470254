/**
 * An engine for a small language of texts: a text comes to the tape by feed, is read and checked by
 * read, and is run in a heap of told size by run.
 */
public final class QuillEngine {
    private static final int TAPE_ROOM = 3200;
    private static final int TEXT_ROOM = 3000;
    private static final int HEAP_ROOM = 4000;
    private static final int TOLD_ROOM = 2000;
    private static final int DEEPEST = 12;

    private static final int NO_PROGRAM = -1;
    private static final int RIGHT = 0;
    private static final int TEXT_FAULT = 1;
    private static final int NAME_FAULT = 2;
    private static final int TYPE_FAULT = 3;

    private static final int NOWHERE = -1;
    private static final int INT = 0;
    private static final int TEXT = 1;

    private final byte[] tape;
    private final Bytes bytes;
    private final Heap blocks;
    private final Reader reader;
    private final Machine machine;
    private int fed;
    private int fault;
    private boolean ran;

    public QuillEngine() {
        Functions functions = new Functions();
        Code code = new Code();
        tape = new byte[TAPE_ROOM];
        bytes = new Bytes();
        blocks = new Heap();
        reader = new Reader(new Words(), functions, code);
        machine = new Machine(functions, code, bytes, blocks);
        fed = 0;
        fault = NO_PROGRAM;
        ran = false;
    }

    public int feed(long eight, int n) throws IllegalArgumentException {
        if (n < 1 || n > 8) {
            throw new IllegalArgumentException("n is 1 to 8");
        }
        if (fed + n > TAPE_ROOM) {
            throw new IllegalArgumentException("the tape is full");
        }
        for (int i = 0; i < n; i++) {
            if (fed >= 0 && fed < tape.length) {
                tape[fed] = (byte) (eight >>> (8 * i));
                fed++;
            }
        }
        return fed;
    }

    public int read() {
        bytes.load(tape, Math.min(fed, TEXT_ROOM));
        fault = reader.check(tape, fed);
        fed = 0;
        ran = false;
        return fault;
    }

    public int place() {
        return fault == NO_PROGRAM || fault == RIGHT ? NOWHERE : reader.faultPlace();
    }

    public int run(int heap, int deep) throws IllegalStateException, IllegalArgumentException {
        if (fault != RIGHT) {
            throw new IllegalStateException("no program that can be run");
        }
        if (heap < 0 || heap > HEAP_ROOM) {
            throw new IllegalArgumentException("heap is 0 to 4000");
        }
        if (deep < 1 || deep > DEEPEST) {
            throw new IllegalArgumentException("deep is 1 to 12");
        }
        ran = true;
        return machine.start(heap, deep);
    }

    public int told(int what) throws IllegalStateException, IllegalArgumentException {
        needRun();
        switch (what) {
            case 0: return machine.result();
            case 1: return machine.toldBytes();
            case 2: return machine.steps();
            case 3: return blocks.made();
            case 4: return blocks.most();
            case 5: return blocks.taken();
            case 6: return blocks.pieces();
            case 7: return blocks.longest();
            default: throw new IllegalArgumentException("what is 0 to 7");
        }
    }

    public int letter(int i) throws IllegalStateException {
        needRun();
        return i < 0 || i >= machine.toldBytes() ? -1 : bytes.look(Bytes.TOLD + i);
    }

    public int whose(int k) throws IllegalStateException, IndexOutOfBoundsException {
        needRun();
        if (k < 0 || k >= blocks.size()) {
            throw new IndexOutOfBoundsException("no such place");
        }
        return blocks.owner(k);
    }

    public int wrong() throws IllegalStateException {
        needRun();
        return blocks.mistakes();
    }

    private void needRun() {
        if (!ran) {
            throw new IllegalStateException("nothing was run");
        }
    }

    /** All bytes that a run reads or writes stand in one row, so that a text is a start and a count. */
    private static final class Bytes {
        static final int HEAP = TEXT_ROOM;
        static final int DIGITS = HEAP + HEAP_ROOM;
        static final int DIGITS_ROOM = 11;
        static final int TOLD = DIGITS + DIGITS_ROOM;

        private final byte[] row;

        Bytes() {
            row = new byte[TOLD + TOLD_ROOM];
        }

        void load(byte[] text, int length) {
            if (text != null && length >= 0 && length <= text.length && length <= TEXT_ROOM) {
                System.arraycopy(text, 0, row, 0, length);
            }
        }

        int look(int at) {
            return at < 0 || at >= row.length ? 0 : row[at] & 255;
        }

        void put(int at, int value) {
            if (at >= 0 && at < row.length) {
                row[at] = (byte) value;
            }
        }

        void copy(int from, int to, int count) {
            if (holds(from, count) && holds(to, count)) {
                System.arraycopy(row, from, row, to, count);
            }
        }

        /** How many bytes from left and from right on are alike, looking at so many at most. */
        int alike(int left, int right, int count) {
            if (!holds(left, count) || !holds(right, count)) {
                return 0;
            }
            for (int i = 0; i < count; i++) {
                if (row[left + i] != row[right + i]) {
                    return i;
                }
            }
            return count;
        }

        private boolean holds(int from, int count) {
            return from >= 0 && count >= 0 && count <= row.length && from <= row.length - count;
        }

        /** Writes n in decimal at the end of the place for digits and tells where it begins. */
        int writeDigits(int n) {
            long rest = Math.abs((long) n);
            int at = DIGITS + DIGITS_ROOM - 1;
            put(at, '0' + (int) (rest % 10));
            rest = rest / 10;
            for (int i = 0; i < DIGITS_ROOM && rest > 0; i++) {
                at--;
                put(at, '0' + (int) (rest % 10));
                rest = rest / 10;
            }
            if (n < 0) {
                at--;
                put(at, '-');
            }
            return at;
        }
    }

    /** Cuts a text into its words; the last row is always END, at the length of the text. */
    private static final class Words {
        static final int END = 0;
        static final int NONE = 1;
        static final int NAME = 2;
        static final int NUMBER = 3;
        static final int QUOTES = 4;
        static final int AND = 10;
        static final int DIGITS = 11;
        static final int DO = 12;
        static final int ELSE = 13;
        static final int FIND = 14;
        static final int FN = 15;
        static final int IF = 16;
        static final int INT_WORD = 17;
        static final int LEN = 18;
        static final int LET = 19;
        static final int OR = 20;
        static final int PRINT = 21;
        static final int RETURN = 22;
        static final int SIGN = 23;
        static final int TEXT_WORD = 24;
        static final int WHILE = 25;
        static final int SAME = 128 + '=';
        static final int OTHER = 128 + '!';
        static final int AT_MOST = 128 + '<';

        private static final String KEYWORDS =
            "and digits do else find fn if int len let or print return sign text while ";
        private static final int KEYWORD_COUNT = 16;
        private static final String SIGNS = "(){}[],:;=+-*/%&!<";
        private static final int LONGEST_NAME = 12;
        private static final int LONGEST_QUOTES = 100;
        private static final long GREATEST_NUMBER = 2147483647L;
        private static final int ROOM = TEXT_ROOM + 2;

        private final int[] kinds;
        private final int[] froms;
        private final long[] values;
        private final long[] keywords;
        private byte[] text;
        private int length;
        private int at;
        private int count;

        Words() {
            kinds = new int[ROOM];
            froms = new int[ROOM];
            values = new long[ROOM];
            keywords = new long[KEYWORD_COUNT];
            text = null;
            length = 0;
            at = 0;
            count = 0;
            long packed = 0;
            int index = 0;
            for (int i = 0; i < KEYWORDS.length(); i++) {
                char c = KEYWORDS.charAt(i);
                if (c != ' ') {
                    packed = packed * 37 + nameDigit(c);
                } else if (index < keywords.length) {
                    keywords[index] = packed;
                    packed = 0;
                    index++;
                }
            }
        }

        void split(byte[] tape, int bytesOfText) {
            text = tape;
            length = tape == null ? 0 : Math.max(0, Math.min(bytesOfText, Math.min(tape.length, TEXT_ROOM)));
            at = 0;
            count = 0;
            for (int i = 0; i < ROOM && at < length; i++) {
                takeWord();
            }
            put(END, length, 0);
        }

        int last() {
            return Math.max(0, count - 1);
        }

        int kind(int index) {
            return index < 0 || index >= count || index >= kinds.length ? END : kinds[index];
        }

        int from(int index) {
            return index < 0 || index >= count || index >= froms.length ? length : froms[index];
        }

        /** A NAME packed into one number, a NUMBER itself, or how many bytes QUOTES hold. */
        long value(int index) {
            return index < 0 || index >= count || index >= values.length ? 0 : values[index];
        }

        static long pack(String name) {
            long packed = 0;
            for (int i = 0; i < name.length(); i++) {
                packed = packed * 37 + nameDigit(name.charAt(i));
            }
            return packed;
        }

        private void takeWord() {
            int c = look(at);
            if (c == ' ' || c == 10) {
                at++;
            } else if (isSmallLetter(c)) {
                takeName();
            } else if (isDigit(c)) {
                takeNumber();
            } else if (c == '"') {
                takeQuotes();
            } else {
                takeSign(c);
            }
        }

        private void takeName() {
            int end = at;
            long packed = 0;
            for (int i = at; i < length && nameDigit(look(i)) > 0; i++) {
                packed = packed * 37 + nameDigit(look(i));
                end = i + 1;
            }
            if (end - at > LONGEST_NAME) {
                refuse();
            } else {
                put(keywordOr(packed), at, packed);
                at = end;
            }
        }

        private int keywordOr(long packed) {
            for (int i = 0; i < keywords.length; i++) {
                if (keywords[i] == packed) {
                    return AND + i;
                }
            }
            return NAME;
        }

        private void takeNumber() {
            int end = at;
            long number = 0;
            for (int i = at; i < length && isDigit(look(i)); i++) {
                if (number <= GREATEST_NUMBER) {
                    number = number * 10 + (look(i) - '0');
                }
                end = i + 1;
            }
            if (number > GREATEST_NUMBER) {
                refuse();
            } else {
                put(NUMBER, at, number);
                at = end;
            }
        }

        private void takeQuotes() {
            int end = at + 1;
            for (int i = at + 1; i < length && look(i) >= 32 && look(i) <= 126 && look(i) != '"'; i++) {
                end = i + 1;
            }
            int held = end - at - 1;
            if (look(end) != '"' || held > LONGEST_QUOTES) {
                refuse();
            } else {
                put(QUOTES, at, held);
                at = end + 1;
            }
        }

        private void takeSign(int c) {
            if (c < 32 || c > 126 || SIGNS.indexOf((char) c) < 0) {
                refuse();
            } else if ((c == '=' || c == '!' || c == '<') && look(at + 1) == '=') {
                put(128 + c, at, 0);
                at += 2;
            } else {
                put(c, at, 0);
                at++;
            }
        }

        /** What follows a byte that begins no word is never looked at: nothing can stand there. */
        private void refuse() {
            put(NONE, at, 0);
            at = length;
        }

        private void put(int kind, int from, long value) {
            if (count >= 0 && count < ROOM) {
                kinds[count] = kind;
                froms[count] = from;
                values[count] = value;
                count++;
            }
        }

        private int look(int i) {
            return text == null || i < 0 || i >= length || i >= text.length ? -1 : text[i] & 255;
        }

        private static boolean isSmallLetter(int c) {
            return c >= 'a' && c <= 'z';
        }

        private static boolean isDigit(int c) {
            return c >= '0' && c <= '9';
        }

        /** 1 to 36 for what a NAME is made of, 0 for all else. */
        private static int nameDigit(int c) {
            if (isSmallLetter(c)) {
                return c - 'a' + 1;
            }
            return isDigit(c) ? c - '0' + 27 : 0;
        }
    }

    /** The locals that are in scope; a local's row is its slot in the frame too. */
    private static final class Scope {
        static final int ROOM = 30;

        private final long[] names;
        private final int[] types;
        private int count;
        private int most;

        Scope() {
            names = new long[ROOM];
            types = new int[ROOM];
            count = 0;
            most = 0;
        }

        void begin() {
            count = 0;
            most = 0;
        }

        boolean full() {
            return count >= ROOM;
        }

        void add(long name, int type) {
            if (count >= 0 && count < ROOM) {
                names[count] = name;
                types[count] = type;
                count++;
                most = Math.max(most, count);
            }
        }

        int find(long name) {
            for (int i = 0; i < count && i < ROOM; i++) {
                if (names[i] == name) {
                    return i;
                }
            }
            return NOWHERE;
        }

        int type(int slot) {
            return slot < 0 || slot >= count || slot >= ROOM ? INT : types[slot];
        }

        int count() {
            return count;
        }

        int most() {
            return most;
        }

        void cut(int mark) {
            count = Math.max(0, Math.min(mark, count));
        }
    }

    /** The FUNCTIONS of the program, in the order of the text. */
    private static final class Functions {
        static final int ROOM = 20;
        static final int PARAMETERS = 6;

        private final long[] names;
        private final int[] counts;
        private final int[] parameterTypes;
        private final int[] types;
        private final int[] entries;
        private final int[] slots;
        private int count;

        Functions() {
            names = new long[ROOM];
            counts = new int[ROOM];
            parameterTypes = new int[ROOM * PARAMETERS];
            types = new int[ROOM];
            entries = new int[ROOM];
            slots = new int[ROOM];
            count = 0;
        }

        void clear() {
            count = 0;
        }

        void add(long name) {
            if (count >= 0 && count < ROOM) {
                names[count] = name;
                counts[count] = 0;
                types[count] = INT;
                entries[count] = 0;
                slots[count] = 0;
                count++;
            }
        }

        void addParameter(int index, int type) {
            if (known(index) && counts[index] >= 0 && counts[index] < PARAMETERS) {
                parameterTypes[index * PARAMETERS + counts[index]] = type;
                counts[index]++;
            }
        }

        void setType(int index, int type) {
            if (known(index)) {
                types[index] = type;
            }
        }

        void setEntry(int index, int entry) {
            if (known(index)) {
                entries[index] = entry;
            }
        }

        void setSlots(int index, int needed) {
            if (known(index)) {
                slots[index] = needed;
            }
        }

        /** The first FUNCTION of that NAME. */
        int find(long name) {
            for (int i = 0; i < count && i < ROOM; i++) {
                if (names[i] == name) {
                    return i;
                }
            }
            return NOWHERE;
        }

        int parameters(int index) {
            return known(index) ? counts[index] : NOWHERE;
        }

        int parameterType(int index, int which) {
            if (!known(index) || which < 0 || which >= PARAMETERS) {
                return INT;
            }
            return parameterTypes[index * PARAMETERS + which];
        }

        int type(int index) {
            return known(index) ? types[index] : INT;
        }

        int entry(int index) {
            return known(index) ? entries[index] : 0;
        }

        int slots(int index) {
            return known(index) ? slots[index] : 0;
        }

        private boolean known(int index) {
            return index >= 0 && index < count && index < ROOM;
        }
    }

    /** What the Machine does, act by act: a kind and up to two numbers each. */
    private static final class Code {
        static final int STEP = 0;
        static final int BEHIND = 1;
        static final int JUMP = 2;
        static final int JUMP_IF_ZERO = 3;
        static final int SETTLE = 4;
        static final int CALL = 5;
        static final int RETURN = 6;
        static final int NUMBER = 7;
        static final int QUOTES = 8;
        static final int LOCAL = 9;
        static final int GIVE = 10;
        static final int CLEAR = 11;
        static final int FORGET = 12;
        static final int PRINT = 13;
        static final int TRUTH = 14;
        static final int NEGATE = 15;
        static final int NOT = 16;
        static final int RECKON = 17;
        static final int COMPARE = 18;
        static final int JOIN = 19;
        static final int BYTE = 20;
        static final int PART = 21;
        static final int LEN = 22;
        static final int FIND = 23;
        static final int DIGITS = 24;
        static final int SIGN = 25;

        /** Each act stems from a byte of the text of its own, so this is more than any text needs. */
        private static final int ROOM = TEXT_ROOM + 100;

        private final byte[] acts;
        private final int[] firsts;
        private final int[] seconds;
        private int count;
        private boolean open;

        Code() {
            acts = new byte[ROOM];
            firsts = new int[ROOM];
            seconds = new int[ROOM];
            count = 0;
            open = false;
        }

        /** Nothing is written while it is not open. */
        void begin(boolean opened) {
            count = 0;
            open = opened;
        }

        int add(int act, int first, int second) {
            if (!open || count < 0 || count >= ROOM) {
                return NOWHERE;
            }
            acts[count] = (byte) act;
            firsts[count] = first;
            seconds[count] = second;
            count++;
            return count - 1;
        }

        void aimHere(int index) {
            if (index >= 0 && index < count) {
                firsts[index] = count;
            }
        }

        int count() {
            return count;
        }

        int act(int index) {
            return known(index) ? acts[index] : RETURN;
        }

        int first(int index) {
            return known(index) ? firsts[index] : 0;
        }

        int second(int index) {
            return known(index) ? seconds[index] : 0;
        }

        private boolean known(int index) {
            return index >= 0 && index < count && index < ROOM;
        }
    }

    /**
     * Walks the words twice, by the grammar. The first walk looks for a fault of THE TEXT and gathers the
     * heads of the FUNCTIONS; the second one, only if there was none, looks for the faults of NAMES and
     * TYPES and writes the code. A fault of THE TEXT sends the walk to the END word, where all that is
     * still open ends by itself.
     */
    private static final class Reader {
        private static final int MOST_STATEMENTS = 300;
        private static final int DEEPEST_STATEMENT = 8;
        private static final int DEEPEST_BRACKET = 8;
        private static final int MOST_SIGNS = 40;

        private static final int ANY = 0;
        private static final int ALL = 1;
        private static final int LIKE = 2;
        private static final int SUM = 3;
        private static final int PRODUCT = 4;

        private final Words words;
        private final Functions functions;
        private final Code code;
        private final Scope scope;
        private boolean second;
        private int last;
        private int faultyWord;
        private int textFault;
        private int nameFault;
        private int typeFault;
        private int cursor;
        private int function;
        private int statements;
        private int depth;
        private int brackets;
        private int signs;

        Reader(Words words, Functions functions, Code code) {
            this.words = words;
            this.functions = functions;
            this.code = code;
            scope = new Scope();
            second = false;
            last = 0;
            faultyWord = NOWHERE;
            textFault = NOWHERE;
            nameFault = NOWHERE;
            typeFault = NOWHERE;
            cursor = 0;
            function = 0;
            statements = 0;
            depth = 0;
            brackets = 0;
            signs = 0;
        }

        int check(byte[] tape, int length) {
            clear();
            if (length > TEXT_ROOM) {
                textFault = TEXT_ROOM;
                return TEXT_FAULT;
            }
            words.split(tape, length);
            last = words.last();
            for (int walk = 1; walk <= 2 && faultyWord == NOWHERE; walk++) {
                begin(walk == 2);
                for (int i = 0; i <= Functions.ROOM && (i == 0 || kind() == Words.FN); i++) {
                    function(i);
                }
                expect(Words.END);
            }
            if (faultyWord != NOWHERE) {
                textFault = words.from(faultyWord);
                return TEXT_FAULT;
            }
            if (nameFault == NOWHERE && !hasMain()) {
                nameFault = length;
            }
            if (nameFault != NOWHERE) {
                return NAME_FAULT;
            }
            return typeFault != NOWHERE ? TYPE_FAULT : RIGHT;
        }

        int faultPlace() {
            if (textFault != NOWHERE) {
                return textFault;
            }
            return nameFault != NOWHERE ? nameFault : typeFault;
        }

        private boolean hasMain() {
            int main = functions.find(Words.pack("main"));
            return main != NOWHERE && functions.parameters(main) == 0 && functions.type(main) == INT;
        }

        private void clear() {
            faultyWord = NOWHERE;
            textFault = NOWHERE;
            nameFault = NOWHERE;
            typeFault = NOWHERE;
            functions.clear();
        }

        private void begin(boolean secondWalk) {
            second = secondWalk;
            code.begin(secondWalk);
            cursor = 0;
            statements = 0;
            depth = 0;
        }

        private void function(int index) {
            if (index >= Functions.ROOM) {
                refuse();
                return;
            }
            function = index;
            scope.begin();
            expect(Words.FN);
            nameOfFunction();
            expect('(');
            if (kind() != ')') {
                parameters();
            }
            expect(')');
            expect(':');
            int type = type();
            if (!second) {
                functions.setType(index, type);
            }
            functions.setEntry(index, code.count());
            block();
            code.add(type == TEXT ? Code.QUOTES : Code.NUMBER, 0, 0);
            code.add(Code.RETURN, 0, 0);
            functions.setSlots(index, scope.most());
        }

        private void nameOfFunction() {
            long name = words.value(cursor);
            if (!second) {
                functions.add(name);
            } else if (functions.find(name) != function) {
                faultOfName(here());
            }
            expect(Words.NAME);
        }

        private void parameters() {
            for (int i = 0; i <= Functions.PARAMETERS; i++) {
                parameter(i);
                if (kind() != ',') {
                    return;
                }
                next();
            }
        }

        private void parameter(int which) {
            if (which >= Functions.PARAMETERS) {
                refuse();
                return;
            }
            long name = words.value(cursor);
            if (scope.find(name) != NOWHERE) {
                faultOfName(here());
            }
            expect(Words.NAME);
            expect(':');
            int type = type();
            if (!second) {
                functions.addParameter(function, type);
            }
            scope.add(name, type);
        }

        private int type() {
            int type = kind() == Words.TEXT_WORD ? TEXT : INT;
            expect(type == TEXT ? Words.TEXT_WORD : Words.INT_WORD);
            return type;
        }

        private void block() {
            int mark = scope.count();
            expect('{');
            for (int i = 0; i <= MOST_STATEMENTS && kind() != '}' && kind() != Words.END; i++) {
                statement();
            }
            expect('}');
            if (scope.count() > mark) {
                code.add(Code.CLEAR, mark, scope.count() - mark);
            }
            scope.cut(mark);
        }

        private void statement() {
            if (statements >= MOST_STATEMENTS || depth >= DEEPEST_STATEMENT) {
                refuse();
                return;
            }
            statements++;
            depth++;
            signs = 0;
            brackets = 0;
            code.add(Code.STEP, 0, 0);
            switch (kind()) {
                case Words.LET: let(); break;
                case Words.NAME: give(); break;
                case Words.IF: choose(); break;
                case Words.WHILE: repeat(); break;
                case Words.RETURN: giveBack(); break;
                case Words.PRINT: print(); break;
                case Words.DO: forget(); break;
                default: refuse(); break;
            }
            code.add(Code.BEHIND, 0, 0);
            depth--;
        }

        private void let() {
            next();
            long name = words.value(cursor);
            if (scope.full()) {
                refuse();
            }
            if (scope.find(name) != NOWHERE) {
                faultOfName(here());
            }
            expect(Words.NAME);
            expect('=');
            int type = row(ANY);
            expect(';');
            code.add(Code.GIVE, scope.count(), 0);
            scope.add(name, type);
        }

        private void give() {
            int slot = scope.find(words.value(cursor));
            if (slot == NOWHERE) {
                faultOfName(here());
            }
            next();
            expect('=');
            rowOf(scope.type(slot));
            expect(';');
            code.add(Code.GIVE, slot, 0);
        }

        private void choose() {
            next();
            rowOf(INT);
            int toElse = code.add(Code.JUMP_IF_ZERO, 0, 0);
            block();
            if (kind() == Words.ELSE) {
                next();
                int toEnd = code.add(Code.JUMP, 0, 0);
                code.aimHere(toElse);
                block();
                code.aimHere(toEnd);
            } else {
                code.aimHere(toElse);
            }
        }

        private void repeat() {
            next();
            int again = code.count();
            rowOf(INT);
            int toEnd = code.add(Code.JUMP_IF_ZERO, 0, 0);
            code.add(Code.STEP, 0, 0);
            block();
            code.add(Code.JUMP, again, 0);
            code.aimHere(toEnd);
        }

        private void giveBack() {
            next();
            rowOf(functions.type(function));
            expect(';');
            code.add(Code.RETURN, 0, 0);
        }

        private void print() {
            next();
            int type = row(ANY);
            expect(';');
            code.add(Code.PRINT, type, 0);
        }

        private void forget() {
            next();
            row(ANY);
            expect(';');
            code.add(Code.FORGET, 0, 0);
        }

        private void rowOf(int type) {
            int begins = here();
            want(type, row(ANY), begins);
        }

        /** A row of parts with signs of one level between them; tells its type. */
        private int row(int level) {
            if (level > PRODUCT) {
                return front();
            }
            int begins = here();
            int type = row(level + 1);
            int most = level == LIKE ? 1 : MOST_SIGNS + 1;
            for (int i = 0; i < most && levelOf(kind()) == level; i++) {
                int sign = kind();
                countSign();
                next();
                if (level <= ALL) {
                    settle(level, sign, type, begins);
                } else if (level == LIKE) {
                    compare(sign, type);
                } else {
                    reckon(level, sign, type, begins);
                }
                type = sign == '&' ? TEXT : INT;
            }
            return type;
        }

        private static int levelOf(int kind) {
            switch (kind) {
                case Words.OR: return ANY;
                case Words.AND: return ALL;
                case Words.SAME:
                case Words.OTHER:
                case Words.AT_MOST:
                case '<': return LIKE;
                case '+':
                case '-':
                case '&': return SUM;
                case '*':
                case '/':
                case '%': return PRODUCT;
                default: return NOWHERE;
            }
        }

        private void settle(int level, int sign, int type, int begins) {
            want(INT, type, begins);
            int toEnd = code.add(Code.SETTLE, 0, sign == Words.OR ? 1 : 0);
            int rightBegins = here();
            want(INT, row(level + 1), rightBegins);
            code.add(Code.TRUTH, 0, 0);
            code.aimHere(toEnd);
        }

        private void compare(int sign, int type) {
            int rightBegins = here();
            want(type, row(SUM), rightBegins);
            code.add(Code.COMPARE, sign, type);
        }

        private void reckon(int level, int sign, int type, int begins) {
            int due = sign == '&' ? TEXT : INT;
            want(due, type, begins);
            int rightBegins = here();
            want(due, row(level + 1), rightBegins);
            code.add(sign == '&' ? Code.JOIN : Code.RECKON, sign, 0);
        }

        private int front() {
            int sign = kind();
            if (sign != '-' && sign != '!') {
                return part();
            }
            countSign();
            next();
            int begins = here();
            want(INT, front(), begins);
            code.add(sign == '-' ? Code.NEGATE : Code.NOT, 0, 0);
            return INT;
        }

        private int part() {
            int begins = here();
            int type = atom();
            for (int i = 0; i <= MOST_SIGNS && kind() == '['; i++) {
                countSign();
                want(TEXT, type, begins);
                type = bracketed();
            }
            return type;
        }

        private int bracketed() {
            int type = INT;
            open('[');
            rowOf(INT);
            if (kind() == ':') {
                next();
                rowOf(INT);
                type = TEXT;
            }
            close(']');
            code.add(type == TEXT ? Code.PART : Code.BYTE, 0, 0);
            return type;
        }

        private int atom() {
            switch (kind()) {
                case Words.NUMBER: return number();
                case Words.QUOTES: return quotes();
                case Words.NAME: return words.kind(cursor + 1) == '(' ? call() : local();
                case '(': return group();
                case Words.LEN: return ofOne(Code.LEN, TEXT, INT);
                case Words.DIGITS: return ofOne(Code.DIGITS, INT, TEXT);
                case Words.SIGN: return ofOne(Code.SIGN, INT, TEXT);
                case Words.FIND: return find();
                default:
                    refuse();
                    return INT;
            }
        }

        private int number() {
            code.add(Code.NUMBER, (int) words.value(cursor), 0);
            next();
            return INT;
        }

        private int quotes() {
            code.add(Code.QUOTES, words.from(cursor) + 1, (int) words.value(cursor));
            next();
            return TEXT;
        }

        private int local() {
            int slot = scope.find(words.value(cursor));
            if (slot == NOWHERE) {
                faultOfName(words.from(cursor));
            }
            code.add(Code.LOCAL, slot, 0);
            next();
            return scope.type(slot);
        }

        private int group() {
            open('(');
            int type = row(ANY);
            close(')');
            return type;
        }

        private int ofOne(int act, int due, int type) {
            countSign();
            next();
            open('(');
            rowOf(due);
            close(')');
            code.add(act, 0, 0);
            return type;
        }

        private int find() {
            countSign();
            next();
            open('(');
            rowOf(TEXT);
            expect(',');
            rowOf(TEXT);
            close(')');
            code.add(Code.FIND, 0, 0);
            return INT;
        }

        private int call() {
            int callee = functions.find(words.value(cursor));
            int begins = here();
            countSign();
            next();
            open('(');
            int handed = kind() == ')' ? 0 : handOver(callee);
            close(')');
            if (callee == NOWHERE || functions.parameters(callee) != handed) {
                faultOfName(begins);
            }
            code.add(Code.CALL, callee, 0);
            return functions.type(callee);
        }

        /** How many are handed over is free for the grammar, so only the words bound their number. */
        private int handOver(int callee) {
            int handed = 0;
            for (int i = 0; i < TEXT_ROOM; i++) {
                int begins = here();
                int type = row(ANY);
                if (handed < functions.parameters(callee)) {
                    want(functions.parameterType(callee, handed), type, begins);
                }
                handed++;
                if (kind() != ',') {
                    break;
                }
                next();
            }
            return handed;
        }

        private void open(int bracket) {
            if (brackets >= DEEPEST_BRACKET || words.kind(cursor) != bracket) {
                refuse();
            } else {
                next();
            }
            brackets++;
        }

        private void close(int bracket) {
            if (words.kind(cursor) != bracket) {
                refuse();
            } else {
                next();
            }
            brackets--;
        }

        private void countSign() {
            if (signs >= MOST_SIGNS) {
                refuse();
            }
            signs++;
        }

        private int kind() {
            return words.kind(cursor);
        }

        private int here() {
            return words.from(cursor);
        }

        private void next() {
            if (cursor < last) {
                cursor++;
            }
        }

        private void expect(int kind) {
            if (words.kind(cursor) == kind) {
                next();
            } else {
                refuse();
            }
        }

        private void refuse() {
            if (faultyWord == NOWHERE) {
                faultyWord = cursor;
            }
            cursor = last;
        }

        private void faultOfName(int at) {
            if (second && (nameFault == NOWHERE || at < nameFault)) {
                nameFault = at;
            }
        }

        private void want(int due, int type, int begins) {
            if (second && due != type && typeFault == NOWHERE) {
                typeFault = begins;
            }
        }
    }

    /**
     * The BLOCKS of the heap, each known by its first place and chained in the order of their places;
     * the row behind the last place is the chain's head.
     */
    private static final class Heap {
        private static final int HEAD = HEAP_ROOM;

        private final int[] next;
        private final int[] before;
        private final int[] places;
        private final int[] references;
        private final int[] serials;
        private final int[] seen;
        private int size;
        private int made;
        private int taken;
        private int most;
        private int mistakes;
        private int look;
        private boolean touched;

        Heap() {
            next = new int[HEAP_ROOM + 1];
            before = new int[HEAP_ROOM + 1];
            places = new int[HEAP_ROOM];
            references = new int[HEAP_ROOM];
            serials = new int[HEAP_ROOM];
            seen = new int[HEAP_ROOM];
            next[HEAD] = HEAD;
            before[HEAD] = HEAD;
            size = 0;
            made = 0;
            taken = 0;
            most = 0;
            mistakes = 0;
            look = 0;
            touched = false;
        }

        void clear(int newSize) {
            for (int i = 0; i < HEAP_ROOM; i++) {
                places[i] = 0;
                references[i] = 0;
            }
            next[HEAD] = HEAD;
            before[HEAD] = HEAD;
            size = Math.max(0, Math.min(newSize, HEAP_ROOM));
            made = 0;
            taken = 0;
            most = 0;
            mistakes = 0;
            touched = false;
        }

        /** A new block for so many bytes, at the lowest places that are enough, or NOWHERE. */
        int make(int bytes) {
            int need = bytes + 1;
            int free = 0;
            int block = next[HEAD];
            for (int i = 0; i < HEAP_ROOM && known(block) && block - free < need; i++) {
                free = block + places[block];
                block = next[block];
            }
            if (free < 0 || free >= size || (known(block) ? block : size) - free < need) {
                return NOWHERE;
            }
            chain(free, block);
            places[free] = need;
            references[free] = 0;
            serials[free] = made;
            made++;
            taken += need;
            most = Math.max(most, taken);
            touched = true;
            return free;
        }

        void hold(int block) {
            if (block >= 0 && block < HEAP_ROOM) {
                references[block]++;
            }
        }

        void drop(int block) {
            if (block < 0 || block >= HEAP_ROOM) {
                return;
            }
            touched = true;
            references[block]--;
            if (references[block] > 0 || places[block] <= 0) {
                return;
            }
            taken -= places[block];
            places[block] = 0;
            int previous = before[block];
            int following = next[block];
            if (previous >= 0 && previous <= HEAD && following >= 0 && following <= HEAD) {
                next[previous] = following;
                before[following] = previous;
            }
        }

        /** Bytes of a block are about to be read: all of them are mistakes if the block is free. */
        void reading(int block, int bytes) {
            if (known(block) && places[block] == 0) {
                mistakes += bytes;
            }
        }

        boolean touched() {
            return touched;
        }

        void beginLook() {
            look++;
            touched = false;
        }

        void see(int block) {
            if (known(block)) {
                seen[block] = look;
            }
        }

        void endLook() {
            int block = next[HEAD];
            for (int i = 0; i < HEAP_ROOM && known(block); i++) {
                if (seen[block] != look) {
                    mistakes++;
                }
                block = next[block];
            }
        }

        int size() {
            return size;
        }

        int made() {
            return made;
        }

        int most() {
            return most;
        }

        int taken() {
            return taken;
        }

        int mistakes() {
            return mistakes;
        }

        int pieces() {
            int count = 0;
            int free = 0;
            int block = next[HEAD];
            for (int i = 0; i < HEAP_ROOM && known(block); i++) {
                if (block > free) {
                    count++;
                }
                free = block + places[block];
                block = next[block];
            }
            return size > free ? count + 1 : count;
        }

        int longest() {
            int longest = 0;
            int free = 0;
            int block = next[HEAD];
            for (int i = 0; i < HEAP_ROOM && known(block); i++) {
                longest = Math.max(longest, block - free);
                free = block + places[block];
                block = next[block];
            }
            return Math.max(longest, size - free);
        }

        int owner(int at) {
            int block = next[HEAD];
            for (int i = 0; i < HEAP_ROOM && known(block) && block <= at; i++) {
                if (at < block + places[block]) {
                    return serials[block];
                }
                block = next[block];
            }
            return NOWHERE;
        }

        private static boolean known(int block) {
            return block >= 0 && block < HEAP_ROOM;
        }

        private void chain(int block, int following) {
            if (!known(block) || following < 0 || following > HEAD) {
                return;
            }
            int previous = before[following];
            if (previous >= 0 && previous <= HEAD) {
                next[previous] = block;
                before[block] = previous;
                next[block] = following;
                before[following] = block;
            }
        }
    }

    /**
     * The values that are LIVE, in one stack: what locals have, and what parts of an E came to. Each row
     * holds the block that it refers to (NOWHERE: none), where its bytes begin, and how many there are; an
     * int is its own beginning.
     */
    private static final class Values {
        /** A frame has at most 30 locals, and at most 8 brackets with some 8 parts each stand open. */
        private static final int ROOM = DEEPEST * 120;

        private final Heap heap;
        private final int[] blocks;
        private final int[] starts;
        private final int[] counts;
        private int top;

        Values(Heap heap) {
            this.heap = heap;
            blocks = new int[ROOM];
            starts = new int[ROOM];
            counts = new int[ROOM];
            top = 0;
        }

        void clear() {
            top = 0;
        }

        int top() {
            return top;
        }

        int block(int index) {
            return known(index) ? blocks[index] : NOWHERE;
        }

        int start(int index) {
            return known(index) ? starts[index] : 0;
        }

        int count(int index) {
            return known(index) ? counts[index] : 0;
        }

        void push(int block, int start, int count) {
            if (top >= 0 && top < ROOM) {
                heap.hold(block);
                blocks[top] = block;
                starts[top] = start;
                counts[top] = count;
                top++;
            }
        }

        void pushCopy(int index) {
            push(block(index), start(index), count(index));
        }

        void pop(int many) {
            for (int i = 0; i < many && top > 0 && top <= ROOM; i++) {
                top--;
                heap.drop(blocks[top]);
            }
        }

        /** What an act came to, in the place of its parts: they are LIVE till it is. */
        void replace(int many, int block, int start, int count) {
            heap.hold(block);
            pop(many);
            push(block, start, count);
            heap.drop(block);
        }

        void replaceByInt(int many, int value) {
            pop(many);
            push(NOWHERE, value, 0);
        }

        /** The topmost value goes to the row of a local, whose old value goes. */
        void give(int index) {
            int from = top - 1;
            if (known(index) && known(from)) {
                int old = blocks[index];
                heap.hold(blocks[from]);
                blocks[index] = blocks[from];
                starts[index] = starts[from];
                counts[index] = counts[from];
                heap.drop(old);
                pop(1);
            }
        }

        void reserve(int many) {
            for (int i = 0; i < many; i++) {
                push(NOWHERE, 0, 0);
            }
        }

        void forget(int index, int many) {
            for (int i = index; i < index + many && known(i); i++) {
                heap.drop(blocks[i]);
                blocks[i] = NOWHERE;
                starts[i] = 0;
                counts[i] = 0;
            }
        }

        /** Behind an S: every block that is not free is to be one that a value here refers to. */
        void lookThrough() {
            if (!heap.touched()) {
                return;
            }
            heap.beginLook();
            for (int i = 0; i < top && i < ROOM; i++) {
                heap.see(blocks[i]);
            }
            heap.endLook();
        }

        private boolean known(int index) {
            return index >= 0 && index < top && index < ROOM;
        }
    }

    /** Runs the code. */
    private static final class Machine {
        private static final int RUNNING = -1;
        private static final int RETURNED = 0;
        private static final int BY_ZERO = 1;
        private static final int NO_ROOM = 2;
        private static final int TOO_DEEP = 3;
        private static final int TOO_LONG = 4;
        private static final int TOO_MUCH = 5;

        private static final int MOST_STEPS = 20000;
        /** Some hundreds of acts go by between two STEPS at most. */
        private static final int MOST_ACTS = 50000000;

        private final Functions functions;
        private final Code code;
        private final Bytes bytes;
        private final Heap heap;
        private final Values values;
        private final int[] backs;
        private final int[] bases;
        private int under;
        private int deep;
        private int at;
        private int steps;
        private int toldBytes;
        private int result;
        private int ends;

        Machine(Functions functions, Code code, Bytes bytes, Heap heap) {
            this.functions = functions;
            this.code = code;
            this.bytes = bytes;
            this.heap = heap;
            values = new Values(heap);
            backs = new int[DEEPEST];
            bases = new int[DEEPEST];
            under = 0;
            deep = 0;
            at = 0;
            steps = 0;
            toldBytes = 0;
            result = 0;
            ends = RETURNED;
        }

        int start(int places, int mostUnder) {
            values.clear();
            heap.clear(places);
            under = 0;
            deep = mostUnder;
            at = 0;
            steps = 0;
            toldBytes = 0;
            result = 0;
            ends = RUNNING;
            call(functions.find(Words.pack("main")));
            for (int i = 0; i < MOST_ACTS && ends == RUNNING; i++) {
                act();
            }
            return ends;
        }

        int result() {
            return result;
        }

        int toldBytes() {
            return toldBytes;
        }

        int steps() {
            return steps;
        }

        private void act() {
            int first = code.first(at);
            int second = code.second(at);
            int top = values.top() - 1;
            switch (code.act(at++)) {
                case Code.STEP: pass(1); break;
                case Code.BEHIND: values.lookThrough(); break;
                case Code.JUMP: at = first; break;
                case Code.JUMP_IF_ZERO: jumpIfZero(first); break;
                case Code.SETTLE: settle(first, second); break;
                case Code.CALL: call(first); break;
                case Code.NUMBER: values.push(NOWHERE, first, 0); break;
                case Code.QUOTES: values.push(NOWHERE, first, second); break;
                case Code.LOCAL: values.pushCopy(base() + first); break;
                case Code.GIVE: values.give(base() + first); break;
                case Code.CLEAR: values.forget(base() + first, second); break;
                case Code.FORGET: values.pop(1); break;
                case Code.PRINT: print(first); break;
                case Code.TRUTH: values.replaceByInt(1, values.start(top) != 0 ? 1 : 0); break;
                case Code.NEGATE: values.replaceByInt(1, -values.start(top)); break;
                case Code.NOT: values.replaceByInt(1, values.start(top) == 0 ? 1 : 0); break;
                case Code.RECKON: reckon(first, values.start(top - 1), values.start(top)); break;
                case Code.COMPARE: compare(first, second); break;
                case Code.JOIN: join(); break;
                case Code.BYTE: byteOf(); break;
                case Code.PART: part(); break;
                case Code.LEN: values.replaceByInt(1, values.count(top)); break;
                case Code.FIND: find(); break;
                case Code.DIGITS: digits(); break;
                case Code.SIGN: sign(); break;
                default: giveBack(); break;
            }
        }

        private int base() {
            int frame = under - 1;
            return frame >= 0 && frame < DEEPEST ? bases[frame] : 0;
        }

        private void pass(int many) {
            if (many > MOST_STEPS - steps) {
                steps = MOST_STEPS;
                ends = TOO_LONG;
            } else {
                steps += many;
            }
        }

        private void jumpIfZero(int target) {
            int value = values.start(values.top() - 1);
            values.pop(1);
            if (value == 0) {
                at = target;
            }
        }

        private void settle(int target, int settling) {
            int truth = values.start(values.top() - 1) != 0 ? 1 : 0;
            values.pop(1);
            if (truth == settling) {
                values.push(NOWHERE, truth, 0);
                at = target;
            }
        }

        private void call(int callee) {
            if (under >= deep || under < 0 || under >= DEEPEST) {
                ends = TOO_DEEP;
                return;
            }
            int handed = Math.max(0, functions.parameters(callee));
            backs[under] = at;
            bases[under] = values.top() - handed;
            under++;
            values.reserve(functions.slots(callee) - handed);
            at = functions.entry(callee);
            pass(1);
        }

        private void giveBack() {
            int value = values.top() - 1;
            values.replace(values.top() - base(), values.block(value), values.start(value), values.count(value));
            values.lookThrough();
            under--;
            if (under <= 0 || under >= DEEPEST) {
                result = values.start(values.top() - 1);
                ends = RETURNED;
            } else {
                at = backs[under];
            }
        }

        private void print(int type) {
            int value = values.top() - 1;
            int from = values.start(value);
            int count = values.count(value);
            if (type == INT) {
                from = bytes.writeDigits(values.start(value));
                count = Bytes.TOLD - from;
            }
            if (count > TOLD_ROOM - toldBytes) {
                ends = TOO_MUCH;
                return;
            }
            heap.reading(values.block(value), count);
            bytes.copy(from, Bytes.TOLD + toldBytes, count);
            toldBytes += count;
            values.pop(1);
        }

        private void reckon(int sign, int left, int right) {
            if ((sign == '/' || sign == '%') && right == 0) {
                ends = BY_ZERO;
                return;
            }
            values.replaceByInt(2, reckoned(sign, left, right));
        }

        private static int reckoned(int sign, int left, int right) {
            switch (sign) {
                case '+': return left + right;
                case '-': return left - right;
                case '*': return left * right;
                case '/': return right == 0 ? 0 : left / right;
                default: return right == 0 ? 0 : left % right;
            }
        }

        private void compare(int sign, int type) {
            int left = values.top() - 2;
            int right = values.top() - 1;
            int order = type == TEXT ? orderOfTexts(left, right)
                : Integer.compare(values.start(left), values.start(right));
            values.replaceByInt(2, holds(sign, order) ? 1 : 0);
        }

        private static boolean holds(int sign, int order) {
            switch (sign) {
                case Words.SAME: return order == 0;
                case Words.OTHER: return order != 0;
                case '<': return order < 0;
                default: return order <= 0;
            }
        }

        private int orderOfTexts(int left, int right) {
            int common = Math.min(values.count(left), values.count(right));
            int alike = alike(left, right, 0, common);
            if (alike < common) {
                return Integer.compare(byteAt(left, alike), byteAt(right, alike));
            }
            return Integer.compare(values.count(left), values.count(right));
        }

        private int byteAt(int value, int i) {
            heap.reading(values.block(value), 1);
            return bytes.look(values.start(value) + i);
        }

        /** How many of the first bytes of two texts are alike, those of the left one from a place on. */
        private int alike(int left, int right, int from, int most) {
            int alike = bytes.alike(values.start(left) + from, values.start(right), most);
            int looked = Math.min(alike + 1, most);
            heap.reading(values.block(left), looked);
            heap.reading(values.block(right), looked);
            return alike;
        }

        private void join() {
            int left = values.top() - 2;
            int right = values.top() - 1;
            int leftCount = values.count(left);
            int rightCount = values.count(right);
            if (leftCount == 0) {
                values.replace(2, values.block(right), values.start(right), rightCount);
                return;
            }
            if (rightCount == 0) {
                values.pop(1);
                return;
            }
            int block = heap.make(leftCount + rightCount);
            if (block == NOWHERE) {
                ends = NO_ROOM;
                return;
            }
            int start = Bytes.HEAP + block;
            heap.reading(values.block(left), leftCount);
            heap.reading(values.block(right), rightCount);
            bytes.copy(values.start(left), start, leftCount);
            bytes.copy(values.start(right), start + leftCount, rightCount);
            values.replace(2, block, start, leftCount + rightCount);
        }

        private void byteOf() {
            int text = values.top() - 2;
            int i = values.start(values.top() - 1);
            int value = i < 0 || i >= values.count(text) ? -1 : byteAt(text, i);
            values.replaceByInt(2, value);
        }

        private void part() {
            int text = values.top() - 3;
            int count = values.count(text);
            int from = Math.max(0, Math.min(values.start(values.top() - 2), count));
            int to = Math.max(0, Math.min(values.start(values.top() - 1), count));
            if (to <= from) {
                values.replace(3, NOWHERE, 0, 0);
            } else {
                values.replace(3, values.block(text), values.start(text) + from, to - from);
            }
        }

        private void find() {
            int text = values.top() - 2;
            int sought = values.top() - 1;
            pass(values.count(text));
            if (ends == RUNNING) {
                values.replaceByInt(2, placeOf(sought, text));
            }
        }

        private int placeOf(int sought, int text) {
            int count = values.count(sought);
            for (int i = 0; i <= values.count(text) - count; i++) {
                if (alike(text, sought, i, count) == count) {
                    return i;
                }
            }
            return NOWHERE;
        }

        private void digits() {
            int from = bytes.writeDigits(values.start(values.top() - 1));
            makeOfOne(from, Bytes.TOLD - from);
        }

        private void sign() {
            bytes.put(Bytes.DIGITS, values.start(values.top() - 1));
            makeOfOne(Bytes.DIGITS, 1);
        }

        private void makeOfOne(int from, int count) {
            int block = heap.make(count);
            if (block == NOWHERE) {
                ends = NO_ROOM;
                return;
            }
            bytes.copy(from, Bytes.HEAP + block, count);
            values.replace(1, block, Bytes.HEAP + block, count);
        }
    }
}
