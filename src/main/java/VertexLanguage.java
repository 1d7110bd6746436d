import java.util.Arrays;

/**
 * A language for what the nodes of a graph do in rounds, and the machine that runs it.
 * The words used here (TURN, STEP, FAULT, KIND ..) are those of the document.
 */
public final class VertexLanguage {
    public static final int BAD = -1, NONE = -2, FULL = -3, FAILED = -4;

    private static final int BAD_NUMBER = 0;
    private static final int FED_AT_ONCE = 20;
    private static final int MOST_TURNS_AT_ONCE = 100;

    private final byte[] tape;
    private int tapeLength;
    private final Text text;
    private final Program program;
    private final Reader reader;
    private final Graph graph;
    private final Machine machine;

    public VertexLanguage() {
        tape = new byte[Text.MOST_BYTES];
        text = new Text();
        program = new Program(text);
        reader = new Reader(text, program);
        graph = new Graph();
        machine = new Machine(program, graph);
    }

    public int feed(int a, int b, int c, int d, int e) {
        if (tapeLength + FED_AT_ONCE > tape.length) {
            return FULL;
        }
        putOnTape(a);
        putOnTape(b);
        putOnTape(c);
        putOnTape(d);
        putOnTape(e);
        return tapeLength;
    }

    public int end(int n) {
        if (n < 0 || n > FED_AT_ONCE || tapeLength < FED_AT_ONCE) {
            return BAD;
        }
        tapeLength = tapeLength - FED_AT_ONCE + n;
        return tapeLength;
    }

    public int program() {
        machine.running = false;
        text.load(tape, tapeLength);
        tapeLength = 0;
        int fault = reader.read();
        return fault == 0 ? program.statements : -10 - fault;
    }

    public int fault(int what) {
        if (what != 0 && what != 1) {
            return BAD;
        }
        if (reader.faultPlace() < 0) {
            return NONE;
        }
        return what == 0 ? reader.faultPlace() : text.lineOf(reader.faultPlace());
    }

    public int print(int i) {
        if (!program.stands || i < -1 || i >= program.printedLength) {
            return BAD;
        }
        return i == -1 ? program.printedLength : program.printed[i] & 255;
    }

    public int name() {
        if (!program.stands) {
            return BAD;
        }
        int entry = program.lot.findBytes(tape, tapeLength);
        tapeLength = 0;
        return entry < 0 ? NONE : 100 * program.lot.sortOf(entry) + program.lot.numberOf(entry);
    }

    public int count(int what) {
        switch (what) {
            case 0:
            case 1:
            case 2:
            case 3:
                return program.howMany(what);
            case 4:
                return program.stands ? program.statements : 0;
            case 5:
                return graph.nodes;
            case 6:
                return graph.arcs;
            default:
                return BAD;
        }
    }

    public int nodes(int n) {
        if (n < 1 || n > Graph.MOST_NODES) {
            return BAD;
        }
        machine.running = false;
        int before = graph.nodes;
        graph.clear(n);
        return before;
    }

    public int arc(int from, int to) {
        if (!graph.hasNode(from) || !graph.hasNode(to)) {
            return BAD;
        }
        if (graph.arcs >= Graph.MOST_ARCS) {
            return FULL;
        }
        machine.running = false;
        return graph.add(from, to);
    }

    public int weight(int arc, int column, int v) {
        if (arc < 0 || arc >= graph.arcs || column < 0 || column >= Graph.COLUMNS) {
            return BAD_NUMBER;
        }
        return graph.setWeight(arc, column, v);
    }

    public int begin(int seed) {
        if (!program.stands) {
            return BAD;
        }
        machine.setOut(seed);
        return 1;
    }

    public int run(int turns) {
        if (!machine.running || turns < 1 || turns > MOST_TURNS_AT_ONCE) {
            return BAD;
        }
        int done = 0;
        while (done < turns && !machine.hasEnded()) {
            if (!machine.doTurn()) {
                return FAILED;
            }
            done++;
        }
        return done;
    }

    public int undo() {
        if (!machine.running) {
            return BAD;
        }
        if (machine.kept == 0) {
            return NONE;
        }
        machine.goBack();
        return machine.now().turn;
    }

    public int told(int what) {
        return machine.running ? machine.tell(what) : BAD;
    }

    public int state(int node, int k) {
        if (!runsOn(node) || k < 0 || k >= program.howMany(Lot.STATE)) {
            return BAD_NUMBER;
        }
        return machine.now().states[node * Lot.MOST_STATES + k];
    }

    public int message(int node, int fold) {
        if (!runsOn(node) || fold < 0 || fold >= program.howMany(Lot.FOLD)) {
            return BAD_NUMBER;
        }
        return machine.now().came[node * Lot.MOST_FOLDS + fold];
    }

    public int messages(int node, int fold) {
        if (!runsOn(node) || fold < 0 || fold >= program.howMany(Lot.FOLD)) {
            return BAD;
        }
        return machine.now().cameTimes[node * Lot.MOST_FOLDS + fold];
    }

    public int global(int k) {
        if (!machine.running || k < 0 || k >= program.howMany(Lot.GLOBAL)) {
            return BAD_NUMBER;
        }
        return machine.now().given[k];
    }

    public int halted(int node) {
        if (!runsOn(node)) {
            return BAD;
        }
        return machine.now().resting[node] ? 1 : 0;
    }

    private boolean runsOn(int node) {
        return machine.running && graph.hasNode(node);
    }

    private void putOnTape(int number) {
        for (int shift = 24; shift >= 0 && tapeLength < tape.length; shift -= 8) {
            tape[tapeLength] = (byte) (number >>> shift);
            tapeLength++;
        }
    }

    /** The text of the latest program() and the TOKENS that it is cut into. */
    private static final class Text {
        static final int MOST_BYTES = 4000, MOST_TOKENS = 1000;
        private static final int LONGEST_NAME = 12;
        private static final long TOO_GREAT = 2147483648L;

        static final int END = 0, WRONG = 1, NAME = 2, NUMBER = 3;

        // The signs' kinds go in the order of SIGNS, then of PAIRS.
        static final int SEMICOLON = 4, BLOCK = 5, BLOCK_END = 6, OPEN = 7, CLOSE = 8, COMMA = 9, DOT = 10,
            COLON = 11, ASSIGN = 12, LESS = 13, MORE = 14, PLUS = 15, MINUS = 16, TIMES = 17, DIVIDE = 18,
            REST = 19, NOT = 20;
        static final int EQUAL = 21, UNEQUAL = 22, AT_MOST = 23, AT_LEAST = 24, AND = 25, OR = 26;
        private static final String SIGNS = ";{}(),.:=<>+-*/%!";
        private static final String PAIRS = "==!=<=>=&&||";

        // The words' kinds go in the order of WORDS.
        static final int COLUMN = 27, NODE = 28, INT = 29, BOOL = 30, TRUE = 31, FALSE = 32, FOLD = 33,
            GLOBAL = 34, SUM = 35, LEAST = 36, MOST = 37, FIRST = 38, ALL = 39, SOME = 40, START = 41,
            ROUND = 42, LET = 43, SEND = 44, ALONG = 45, AGAINST = 46, GIVE = 47, IF = 48, ELSE = 49,
            LOOP = 50, HALT = 51, ARC = 52, HAS = 53, ID = 54, TURN = 55, NODES = 56, DEGREE = 57,
            INDEGREE = 58, DRAW = 59;
        private static final String WORDS = "column node int bool true false fold global sum least most first all some start round let send along against give if else loop halt arc has id turn nodes degree indegree draw ";

        final byte[] bytes = new byte[MOST_BYTES];
        int length;

        // Room for the first TOKEN that is too many, which has a place to blame, and for the end.
        final int[] kinds = new int[MOST_TOKENS + 2];
        final int[] firsts = new int[MOST_TOKENS + 2];
        final int[] ends = new int[MOST_TOKENS + 2];
        final int[] values = new int[MOST_TOKENS + 2];
        int tokens;

        void load(byte[] from, int size) {
            length = Math.max(0, Math.min(size, Math.min(from.length, bytes.length)));
            System.arraycopy(from, 0, bytes, 0, length);
            cut();
        }

        int lineOf(int place) {
            int line = 1;
            for (int i = 0; i < place && i < length; i++) {
                if (bytes[i] == '\n') {
                    line++;
                }
            }
            return line;
        }

        boolean reads(int token, byte[] other, int from, int to) {
            int first = firsts[token];
            if (ends[token] - first != to - from) {
                return false;
            }
            for (int i = from; i < to; i++) {
                if (bytes[first + i - from] != other[i]) {
                    return false;
                }
            }
            return true;
        }

        private void cut() {
            tokens = 0;
            int at = passBlanks(0);
            for (int n = 0; n <= MOST_TOKENS && at < length; n++) {
                at = passBlanks(cutToken(at));
            }
            put(END, length, length, 0);
            tokens--;
        }

        private int passBlanks(int from) {
            boolean remark = false;
            for (int i = from; i < length; i++) {
                int sign = bytes[i];
                if (sign == '\n') {
                    remark = false;
                } else if (sign == '#') {
                    remark = true;
                } else if (!remark && sign != ' ') {
                    return i;
                }
            }
            return length;
        }

        private int cutToken(int from) {
            int sign = bytes[from];
            if (isLetter(sign)) {
                return cutWord(from);
            }
            return isDigit(sign) ? cutNumber(from) : cutSign(from);
        }

        private int cutWord(int from) {
            int end = from;
            while (end < length && (isLetter(bytes[end]) || isDigit(bytes[end]))) {
                end++;
            }
            put(end - from > LONGEST_NAME ? WRONG : wordKind(from, end), from, end, 0);
            return end;
        }

        private int cutNumber(int from) {
            long value = 0;
            int end = from;
            while (end < length && isDigit(bytes[end])) {
                value = Math.min(value * 10 + (bytes[end] - '0'), TOO_GREAT);
                end++;
            }
            put(value < TOO_GREAT ? NUMBER : WRONG, from, end, (int) value);
            return end;
        }

        private int cutSign(int from) {
            int pair = pairAt(from);
            if (pair >= 0) {
                put(EQUAL + pair, from, from + 2, 0);
                return from + 2;
            }
            int sign = SIGNS.indexOf((char) (bytes[from] & 255));
            put(sign < 0 ? WRONG : SEMICOLON + sign, from, from + 1, 0);
            return from + 1;
        }

        private int pairAt(int from) {
            if (from + 1 >= length) {
                return -1;
            }
            for (int i = 0; i + 1 < PAIRS.length(); i += 2) {
                if (bytes[from] == PAIRS.charAt(i) && bytes[from + 1] == PAIRS.charAt(i + 1)) {
                    return i / 2;
                }
            }
            return -1;
        }

        private int wordKind(int from, int end) {
            int word = 0;
            int wordAt = 0;
            for (int i = 0; i < WORDS.length(); i++) {
                if (WORDS.charAt(i) == ' ') {
                    if (i - wordAt == end - from && isWord(from, end, wordAt)) {
                        return COLUMN + word;
                    }
                    word++;
                    wordAt = i + 1;
                }
            }
            return NAME;
        }

        private boolean isWord(int from, int end, int wordAt) {
            for (int i = from; i < end; i++) {
                if (bytes[i] != WORDS.charAt(wordAt + i - from)) {
                    return false;
                }
            }
            return true;
        }

        private void put(int kind, int first, int end, int value) {
            if (tokens < kinds.length) {
                kinds[tokens] = kind;
                firsts[tokens] = first;
                ends[tokens] = end;
                values[tokens] = value;
                tokens++;
            }
        }

        private static boolean isLetter(int sign) {
            return sign >= 'a' && sign <= 'z' || sign >= 'A' && sign <= 'Z';
        }

        private static boolean isDigit(int sign) {
            return sign >= '0' && sign <= '9';
        }
    }

    /** Where reading stands in the TOKENS, and the FAULTS that it has met. */
    private static final class Cursor {
        private final Text text;
        private int at;
        private int stopFault, stopPlace;
        private int leastFault, leastPlace;

        Cursor(Text text) {
            this.text = text;
        }

        void rewind() {
            at = 0;
            stopFault = 0;
            leastFault = 0;
        }

        int here() {
            return at;
        }

        int kind() {
            return text.kinds[at];
        }

        boolean sees(int kind) {
            return text.kinds[at] == kind;
        }

        /** Goes past a TOKEN of this kind and answers its number; stops at another. */
        int take(int kind) {
            int token = at;
            if (text.kinds[token] != kind || token >= text.tokens) {
                stop(1);
            } else if (token >= Text.MOST_TOKENS) {
                stop(2);
            } else {
                at++;
            }
            return token;
        }

        /** FAULTS 1 and 2 end the reading: nothing can stand at the end of the text, so all else falls through. */
        void stop(int fault) {
            if (stopFault == 0) {
                stopFault = fault;
                stopPlace = text.firsts[at];
            }
            at = text.tokens;
        }

        /** FAULTS 3 to 5: the reading goes on, for a 1 or 2 may still come, or one with a lesser place. */
        void blame(int fault, int token) {
            int place = text.firsts[token];
            if (leastFault == 0 || place < leastPlace || place == leastPlace && fault < leastFault) {
                leastFault = fault;
                leastPlace = place;
            }
        }

        int worst() {
            return stopFault != 0 ? stopFault : leastFault;
        }

        int worstPlace() {
            return stopFault != 0 ? stopPlace : leastPlace;
        }
    }

    /** The NAMES that are told, the lets that can be seen behind all others. */
    private static final class Lot {
        static final int COLUMN = 0, STATE = 1, FOLD = 2, GLOBAL = 3, LET = 4;
        static final int ANY = 0, INT = 1, BOOL = 2;
        static final int MOST_STATES = 8, MOST_FOLDS = 4, MOST_GLOBALS = 4, MOST_LETS = 8;
        private static final int[] MOST = {4, 8, 4, 4, 8};
        private static final int ROOM = 28;

        private final Text text;
        private final int[] tokens = new int[ROOM];
        private final int[] sorts = new int[ROOM];
        private final int[] numbers = new int[ROOM];
        private final int[] kinds = new int[ROOM];
        private final int[] sizes = new int[MOST.length];
        private int size;

        Lot(Text text) {
            this.text = text;
        }

        void clear() {
            size = 0;
            Arrays.fill(sizes, 0);
        }

        int size() {
            return size;
        }

        int howMany(int sort) {
            return sizes[sort];
        }

        boolean isFull(int sort) {
            return sizes[sort] >= MOST[sort];
        }

        int find(int token) {
            for (int entry = 0; entry < size; entry++) {
                if (text.reads(tokens[entry], text.bytes, text.firsts[token], text.ends[token])) {
                    return entry;
                }
            }
            return -1;
        }

        int findBytes(byte[] bytes, int length) {
            for (int entry = 0; entry < size; entry++) {
                if (text.reads(tokens[entry], bytes, 0, length)) {
                    return entry;
                }
            }
            return -1;
        }

        int sortOf(int entry) {
            return entry < 0 || entry >= size ? -1 : sorts[entry];
        }

        int numberOf(int entry) {
            return entry < 0 || entry >= size ? 0 : numbers[entry];
        }

        int kindOf(int entry) {
            return entry < 0 || entry >= size ? ANY : kinds[entry];
        }

        /** The new one's number in its sort; -1 where there is no room, which reading has blamed before. */
        int add(int token, int sort, int kind) {
            if (isFull(sort) || size >= ROOM) {
                return -1;
            }
            int number = sizes[sort];
            tokens[size] = token;
            sorts[size] = sort;
            numbers[size] = number;
            kinds[size] = kind;
            size++;
            sizes[sort]++;
            return number;
        }

        void shrinkTo(int left) {
            while (size > left && size > 0) {
                size--;
                sizes[sorts[size]]--;
            }
        }
    }

    /** What a node does, as a row of small deeds with a stack: so running needs no recursion. */
    private static final class Code {
        // Deeds that are a STEP each: operands, operators, the beginning of a statement.
        static final int NUMBER = 0, STATE = 1, LET = 2, FOLD = 3, GLOBAL = 4, COLUMN = 5, HAS = 6, ID = 7, TURN = 8,
            NODES = 9, DEGREE = 10, INDEGREE = 11, LAST_OPERAND = 11;
        static final int NEGATE = 12, INVERT = 13, DRAW = 14, BINARY = 15, LAST_OPERATOR = 15;
        static final int AND = 16, OR = 17, CHOOSE = 18, STATEMENT = 19, LAST_STEP = 19;
        // Deeds that are none, or count STEPS of their own (FIRST, NEXT, REPEAT).
        static final int UNLESS = 20, JUMP = 21, LOOP = 22, REPEAT = 23, FIRST = 24, NEXT = 25, LAST_FLOW = 25;
        static final int SET_STATE = 26, SET_LET = 27, SEND = 28, GIVE = 29, HALT = 30, END = 31;

        // No TOKEN makes more than one deed.
        private static final int ROOM = Text.MOST_TOKENS + 24;

        final int[] deeds = new int[ROOM];
        final int[] args = new int[ROOM];
        final int[] marks = new int[ROOM];
        final int[] homes = new int[ROOM];
        int size;
        int home;

        void clear() {
            size = 0;
            home = 0;
        }

        int add(int deed, int arg, int mark) {
            int at = size;
            if (at < ROOM) {
                deeds[at] = deed;
                args[at] = arg;
                marks[at] = mark;
                homes[at] = home;
                size++;
            }
            return at;
        }

        /** A jump that was added before goes to what is added next. */
        void aimHere(int jump) {
            if (jump >= 0 && jump < ROOM) {
                args[jump] = size;
            }
        }

        void mark(int at, int mark) {
            if (at >= 0 && at < ROOM) {
                marks[at] = mark;
            }
        }
    }

    /** What a text without FAULT tells. */
    private static final class Program {
        final Lot lot;
        final Code code;
        boolean stands;
        int statements;
        int startAt, roundAt;
        final int[] firstStates = new int[Lot.MOST_STATES];
        final int[] foldWays = new int[Lot.MOST_FOLDS];
        final int[] globalWays = new int[Lot.MOST_GLOBALS];
        final byte[] printed = new byte[Text.MOST_BYTES + Text.MOST_TOKENS];
        int printedLength;

        Program(Text text) {
            lot = new Lot(text);
            code = new Code();
        }

        void clear() {
            stands = false;
            statements = 0;
            printedLength = 0;
            lot.clear();
            code.clear();
        }

        int howMany(int sort) {
            return stands ? lot.howMany(sort) : 0;
        }

        void write(byte[] bytes, int from, int to) {
            if (printedLength > 0) {
                writeByte((byte) ' ');
            }
            for (int i = from; i < to; i++) {
                writeByte(bytes[i]);
            }
        }

        private void writeByte(byte sign) {
            if (printedLength < printed.length) {
                printed[printedLength] = sign;
                printedLength++;
            }
        }

        /** A way is the kind of its word. */
        static int kindOfWay(int way) {
            return way == Text.ALL || way == Text.SOME ? Lot.BOOL : Lot.INT;
        }

        static int nothing(int way) {
            switch (way) {
                case Text.LEAST:
                    return Integer.MAX_VALUE;
                case Text.MOST:
                    return Integer.MIN_VALUE;
                case Text.ALL:
                    return 1;
                default:
                    return 0;
            }
        }

        static int folded(int way, int before, int times, int v) {
            switch (way) {
                case Text.SUM:
                    return before + v;
                case Text.LEAST:
                    return Math.min(before, v);
                case Text.MOST:
                    return Math.max(before, v);
                case Text.FIRST:
                    return times == 0 ? v : before;
                case Text.ALL:
                    return before & v;
                default:
                    return before | v;
            }
        }
    }

    /**
     * Reads exps, judges their kinds and finds the ( ) that are not needed.
     * An exp is known by the number of its first TOKEN.
     */
    private static final class Exps {
        private static final int MOST_WITHIN = 12;

        // The lines of the grammar, from the one that binds least.
        private static final int EITHER = 1, BOTH = 2, TEST = 3, SUM = 4, TERM = 5, ONE = 6, BASE = 7;

        private final Text text;
        private final Cursor cursor;
        private final Lot lot;
        private final Code code;
        boolean inSend;

        // Of the exp that begins at a TOKEN, as far as it has been read: its kind, its line of the
        // grammar and, where it is one pair of ( ) about which nothing has been settled, the ).
        private final int[] kinds = new int[Text.MOST_TOKENS + 2];
        private final int[] lines = new int[Text.MOST_TOKENS + 2];
        private final int[] closes = new int[Text.MOST_TOKENS + 2];
        private final boolean[] dropped = new boolean[Text.MOST_TOKENS + 2];

        Exps(Text text, Cursor cursor, Program program) {
            this.text = text;
            this.cursor = cursor;
            this.lot = program.lot;
            this.code = program.code;
        }

        void clear() {
            inSend = false;
            for (int token = 0; token < dropped.length; token++) {
                dropped[token] = false;
            }
        }

        int kindOf(int exp) {
            return kinds[exp];
        }

        boolean isDropped(int token) {
            return dropped[token];
        }

        void demand(int exp, int kind) {
            if (kind != Lot.ANY && kinds[exp] != Lot.ANY && kinds[exp] != kind) {
                cursor.blame(5, exp);
            }
        }

        int exp(int within) {
            int exp = chain(EITHER, within);
            settle(exp, EITHER);
            return exp;
        }

        /** Each line is made of the next one; comparing alone makes no chain. */
        private int chain(int line, int within) {
            int left = line == TERM ? one(within) : chain(line + 1, within);
            int most = line == TEST ? 1 : Text.MOST_TOKENS;
            for (int n = 0; n < most && lineOf(cursor.kind()) == line; n++) {
                int sign = cursor.kind();
                int operator = cursor.take(sign);
                int jump = line <= BOTH ? code.add(line == BOTH ? Code.AND : Code.OR, 0, 0) : -1;
                int right = line == TERM ? one(within) : chain(line + 1, within);
                if (jump >= 0) {
                    code.aimHere(jump);
                } else {
                    code.add(Code.BINARY, sign, text.firsts[operator]);
                }
                join(line, sign, left, right);
            }
            return left;
        }

        private void join(int line, int sign, int left, int right) {
            if (sign == Text.EQUAL || sign == Text.UNEQUAL) {
                demand(right, kinds[left]);
            } else {
                int kind = line <= BOTH ? Lot.BOOL : Lot.INT;
                demand(left, kind);
                demand(right, kind);
            }
            settle(left, line == TEST ? SUM : line);
            settle(right, line + 1);
            know(left, line <= TEST ? Lot.BOOL : Lot.INT, line);
        }

        private int one(int within) {
            if (within > MOST_WITHIN && beginsOne(cursor.kind())) {
                cursor.stop(2);
            }
            int sign = cursor.kind();
            if (sign != Text.MINUS && sign != Text.NOT) {
                return base(within);
            }
            int first = cursor.take(sign);
            int kind = sign == Text.MINUS ? Lot.INT : Lot.BOOL;
            int operand = one(within + 1);
            demand(operand, kind);
            settle(operand, ONE);
            code.add(sign == Text.MINUS ? Code.NEGATE : Code.INVERT, 0, 0);
            know(first, kind, ONE);
            return first;
        }

        private int base(int within) {
            switch (cursor.kind()) {
                case Text.NUMBER:
                case Text.TRUE:
                case Text.FALSE:
                    return constant();
                case Text.NAME:
                    return named();
                case Text.ARC:
                    return column();
                case Text.HAS:
                    return has();
                case Text.DRAW:
                    return draw(within);
                case Text.IF:
                    return choice(within);
                case Text.OPEN:
                    return group(within);
                default:
                    return fact();
            }
        }

        private int constant() {
            int kind = cursor.kind();
            int first = cursor.take(kind);
            int value = kind == Text.TRUE ? 1 : text.values[first];
            code.add(Code.NUMBER, value, 0);
            know(first, kind == Text.NUMBER ? Lot.INT : Lot.BOOL, BASE);
            return first;
        }

        private int fact() {
            int kind = cursor.kind();
            int deed = factDeed(kind);
            if (deed < 0) {
                cursor.stop(1);
            }
            int first = cursor.take(kind);
            code.add(Math.max(deed, 0), 0, 0);
            know(first, Lot.INT, BASE);
            return first;
        }

        private int named() {
            int first = cursor.take(Text.NAME);
            int entry = lot.find(first);
            int deed = readingDeed(lot.sortOf(entry));
            if (deed < 0) {
                cursor.blame(4, first);
            }
            code.add(Math.max(deed, 0), lot.numberOf(entry), 0);
            know(first, deed < 0 ? Lot.ANY : lot.kindOf(entry), BASE);
            return first;
        }

        private int column() {
            int first = cursor.take(Text.ARC);
            cursor.take(Text.DOT);
            int name = cursor.take(Text.NAME);
            int entry = lot.find(name);
            boolean fits = inSend && lot.sortOf(entry) == Lot.COLUMN;
            if (!fits) {
                cursor.blame(4, name);
            }
            code.add(Code.COLUMN, lot.numberOf(entry), 0);
            know(first, fits ? Lot.INT : Lot.ANY, BASE);
            return first;
        }

        private int has() {
            int first = cursor.take(Text.HAS);
            int name = cursor.take(Text.NAME);
            int entry = lot.find(name);
            boolean fits = lot.sortOf(entry) == Lot.FOLD;
            if (!fits) {
                cursor.blame(4, name);
            }
            code.add(Code.HAS, lot.numberOf(entry), 0);
            know(first, fits ? Lot.BOOL : Lot.ANY, BASE);
            return first;
        }

        private int draw(int within) {
            int first = cursor.take(Text.DRAW);
            cursor.take(Text.OPEN);
            int exp = exp(within + 1);
            cursor.take(Text.CLOSE);
            demand(exp, Lot.INT);
            code.add(Code.DRAW, 0, text.firsts[first]);
            know(first, Lot.INT, BASE);
            return first;
        }

        private int choice(int within) {
            int first = cursor.take(Text.IF);
            cursor.take(Text.OPEN);
            int condition = exp(within + 1);
            demand(condition, Lot.BOOL);
            int otherwise = code.add(Code.CHOOSE, 0, 0);
            cursor.take(Text.COMMA);
            int second = exp(within + 1);
            int done = code.add(Code.JUMP, 0, 0);
            cursor.take(Text.COMMA);
            code.aimHere(otherwise);
            int third = exp(within + 1);
            cursor.take(Text.CLOSE);
            code.aimHere(done);
            demand(third, kinds[second]);
            know(first, kinds[second] == Lot.ANY ? kinds[third] : kinds[second], BASE);
            return first;
        }

        private int group(int within) {
            int open = cursor.take(Text.OPEN);
            int exp = exp(within + 1);
            int close = cursor.take(Text.CLOSE);
            know(open, kinds[exp], lines[exp]);
            closes[open] = close;
            return open;
        }

        private void know(int exp, int kind, int line) {
            kinds[exp] = kind;
            lines[exp] = line;
            closes[exp] = 0;
        }

        /** Now it is seen where the exp stands: ( ) around it go if what is in them can stand there itself. */
        private void settle(int exp, int line) {
            int close = closes[exp];
            if (close > 0 && lines[exp] >= line) {
                dropped[exp] = true;
                dropped[close] = true;
            }
            closes[exp] = 0;
        }

        private static int lineOf(int sign) {
            switch (sign) {
                case Text.OR:
                    return EITHER;
                case Text.AND:
                    return BOTH;
                case Text.EQUAL:
                case Text.UNEQUAL:
                case Text.LESS:
                case Text.AT_MOST:
                case Text.MORE:
                case Text.AT_LEAST:
                    return TEST;
                case Text.PLUS:
                case Text.MINUS:
                    return SUM;
                case Text.TIMES:
                case Text.DIVIDE:
                case Text.REST:
                    return TERM;
                default:
                    return 0;
            }
        }

        private static boolean beginsOne(int kind) {
            switch (kind) {
                case Text.NUMBER:
                case Text.TRUE:
                case Text.FALSE:
                case Text.NAME:
                case Text.ARC:
                case Text.HAS:
                case Text.DRAW:
                case Text.IF:
                case Text.OPEN:
                case Text.MINUS:
                case Text.NOT:
                    return true;
                default:
                    return factDeed(kind) >= 0;
            }
        }

        private static int factDeed(int kind) {
            switch (kind) {
                case Text.ID:
                    return Code.ID;
                case Text.TURN:
                    return Code.TURN;
                case Text.NODES:
                    return Code.NODES;
                case Text.DEGREE:
                    return Code.DEGREE;
                case Text.INDEGREE:
                    return Code.INDEGREE;
                default:
                    return -1;
            }
        }

        private static int readingDeed(int sort) {
            switch (sort) {
                case Lot.STATE:
                    return Code.STATE;
                case Lot.LET:
                    return Code.LET;
                case Lot.FOLD:
                    return Code.FOLD;
                case Lot.GLOBAL:
                    return Code.GLOBAL;
                default:
                    return -1;
            }
        }
    }

    /** Reads a whole text: what is told, blocks and statements. */
    private static final class Reader {
        private static final int MOST_STATEMENTS = 120, MOST_REPEATS = 100, MOST_WITHIN = 12;

        private final Text text;
        private final Program program;
        private final Lot lot;
        private final Code code;
        private final Cursor cursor;
        private final Exps exps;
        private int loops;

        Reader(Text text, Program program) {
            this.text = text;
            this.program = program;
            lot = program.lot;
            code = program.code;
            cursor = new Cursor(text);
            exps = new Exps(text, cursor, program);
        }

        /** The FAULT; 0 for none, and the program stands. */
        int read() {
            program.clear();
            cursor.rewind();
            exps.clear();
            loops = 0;
            for (int n = 0; n < Text.MOST_TOKENS && tells(cursor.kind()); n++) {
                readTold();
            }
            cursor.take(Text.START);
            program.startAt = code.size;
            readBlock(0);
            code.add(Code.END, 0, 0);
            cursor.take(Text.ROUND);
            program.roundAt = code.size;
            readBlock(0);
            code.add(Code.END, 0, 0);
            if (!cursor.sees(Text.END)) {
                cursor.stop(1);
            }
            if (cursor.worst() == 0) {
                writeOut();
                program.stands = true;
            }
            return cursor.worst();
        }

        int faultPlace() {
            return cursor.worst() == 0 ? -1 : cursor.worstPlace();
        }

        private void writeOut() {
            for (int token = 0; token < text.tokens; token++) {
                if (!exps.isDropped(token)) {
                    program.write(text.bytes, text.firsts[token], text.ends[token]);
                }
            }
        }

        private static boolean tells(int kind) {
            return kind == Text.COLUMN || kind == Text.NODE || kind == Text.FOLD || kind == Text.GLOBAL;
        }

        private void readTold() {
            switch (cursor.kind()) {
                case Text.COLUMN:
                    cursor.take(Text.COLUMN);
                    lot.add(newName(Lot.COLUMN), Lot.COLUMN, Lot.INT);
                    break;
                case Text.NODE:
                    readState();
                    break;
                case Text.FOLD:
                    readFolded(Lot.FOLD, program.foldWays);
                    break;
                default:
                    readFolded(Lot.GLOBAL, program.globalWays);
                    break;
            }
            cursor.take(Text.SEMICOLON);
        }

        private int newName(int sort) {
            if (cursor.sees(Text.NAME) && lot.isFull(sort)) {
                cursor.stop(2);
            }
            int name = cursor.take(Text.NAME);
            if (lot.find(name) >= 0) {
                cursor.blame(3, name);
            }
            return name;
        }

        private void readState() {
            cursor.take(Text.NODE);
            int name = newName(Lot.STATE);
            cursor.take(Text.COLON);
            boolean isBool = cursor.sees(Text.BOOL);
            cursor.take(isBool ? Text.BOOL : Text.INT);
            cursor.take(Text.ASSIGN);
            int value = isBool ? readBool() : readInt();
            int number = lot.add(name, Lot.STATE, isBool ? Lot.BOOL : Lot.INT);
            if (number >= 0 && number < program.firstStates.length) {
                program.firstStates[number] = value;
            }
        }

        private int readBool() {
            boolean value = cursor.sees(Text.TRUE);
            cursor.take(value ? Text.TRUE : Text.FALSE);
            return value ? 1 : 0;
        }

        private int readInt() {
            boolean minus = cursor.sees(Text.MINUS);
            if (minus) {
                cursor.take(Text.MINUS);
            }
            int value = text.values[cursor.take(Text.NUMBER)];
            return minus ? -value : value;
        }

        private void readFolded(int sort, int[] ways) {
            cursor.take(cursor.kind());
            int name = newName(sort);
            cursor.take(Text.COLON);
            int way = cursor.kind();
            if (way < Text.SUM || way > Text.SOME) {
                cursor.stop(1);
            }
            cursor.take(way);
            int number = lot.add(name, sort, Program.kindOfWay(way));
            if (number >= 0 && number < ways.length) {
                ways[number] = way;
            }
        }

        private void readBlock(int within) {
            if (cursor.sees(Text.BLOCK) && within > MOST_WITHIN) {
                cursor.stop(2);
            }
            cursor.take(Text.BLOCK);
            int seen = lot.size();
            for (int n = 0; n <= MOST_STATEMENTS && beginsStatement(cursor.kind()); n++) {
                readStatement(within + 1);
            }
            cursor.take(Text.BLOCK_END);
            lot.shrinkTo(seen);
        }

        private static boolean beginsStatement(int kind) {
            return kind == Text.NAME || kind == Text.LET || kind == Text.SEND || kind == Text.GIVE
                || kind == Text.IF || kind == Text.LOOP || kind == Text.HALT;
        }

        private void readStatement(int within) {
            if (program.statements >= MOST_STATEMENTS) {
                cursor.stop(2);
                return;
            }
            program.statements++;
            int homeBefore = code.home;
            code.home = text.firsts[cursor.here()];
            code.add(Code.STATEMENT, 0, 0);
            switch (cursor.kind()) {
                case Text.NAME:
                    readSetting(within);
                    break;
                case Text.LET:
                    readLet(within);
                    break;
                case Text.SEND:
                    readSend(within);
                    break;
                case Text.GIVE:
                    readGive(within);
                    break;
                case Text.IF:
                    readIf(within);
                    break;
                case Text.LOOP:
                    readLoop(within);
                    break;
                default:
                    readHalt();
                    break;
            }
            code.home = homeBefore;
        }

        private void readSetting(int within) {
            int name = cursor.take(Text.NAME);
            int entry = lot.find(name);
            int sort = lot.sortOf(entry);
            boolean fits = sort == Lot.STATE || sort == Lot.LET;
            if (!fits) {
                cursor.blame(4, name);
            }
            cursor.take(Text.ASSIGN);
            int exp = exps.exp(within);
            exps.demand(exp, fits ? lot.kindOf(entry) : Lot.ANY);
            cursor.take(Text.SEMICOLON);
            code.add(sort == Lot.LET ? Code.SET_LET : Code.SET_STATE, lot.numberOf(entry), 0);
        }

        private void readLet(int within) {
            cursor.take(Text.LET);
            int name = newName(Lot.LET);
            cursor.take(Text.ASSIGN);
            int exp = exps.exp(within);
            cursor.take(Text.SEMICOLON);
            code.add(Code.SET_LET, lot.add(name, Lot.LET, exps.kindOf(exp)), 0);
        }

        /** The entry that a send or give names; one with FAULT 4 has any kind. */
        private int namedEntry(int sort) {
            int name = cursor.take(Text.NAME);
            int entry = lot.find(name);
            if (lot.sortOf(entry) != sort) {
                cursor.blame(4, name);
                return -1;
            }
            return entry;
        }

        private void readSend(int within) {
            cursor.take(Text.SEND);
            int entry = namedEntry(Lot.FOLD);
            int first = code.add(Code.FIRST, 0, 0);
            exps.inSend = true;
            int exp = exps.exp(within);
            exps.inSend = false;
            exps.demand(exp, lot.kindOf(entry));
            boolean against = cursor.sees(Text.AGAINST);
            cursor.take(against ? Text.AGAINST : Text.ALONG);
            cursor.take(Text.SEMICOLON);
            code.mark(first, against ? 1 : 0);
            code.add(Code.SEND, lot.numberOf(entry), 0);
            code.add(Code.NEXT, first + 1, 0);
            code.aimHere(first);
        }

        private void readGive(int within) {
            cursor.take(Text.GIVE);
            int entry = namedEntry(Lot.GLOBAL);
            int exp = exps.exp(within);
            exps.demand(exp, lot.kindOf(entry));
            cursor.take(Text.SEMICOLON);
            code.add(Code.GIVE, lot.numberOf(entry), 0);
        }

        private void readIf(int within) {
            cursor.take(Text.IF);
            int condition = exps.exp(within);
            exps.demand(condition, Lot.BOOL);
            int unless = code.add(Code.UNLESS, 0, 0);
            readBlock(within);
            if (!cursor.sees(Text.ELSE)) {
                code.aimHere(unless);
                return;
            }
            cursor.take(Text.ELSE);
            int done = code.add(Code.JUMP, 0, 0);
            code.aimHere(unless);
            readBlock(within);
            code.aimHere(done);
        }

        private void readLoop(int within) {
            cursor.take(Text.LOOP);
            if (cursor.sees(Text.NUMBER) && text.values[cursor.here()] > MOST_REPEATS) {
                cursor.stop(2);
            }
            int times = text.values[cursor.take(Text.NUMBER)];
            code.add(Code.LOOP, times, loops);
            int repeat = code.add(Code.REPEAT, 0, loops);
            loops++;
            readBlock(within);
            loops--;
            code.add(Code.JUMP, repeat, 0);
            code.aimHere(repeat);
        }

        private void readHalt() {
            cursor.take(Text.HALT);
            cursor.take(Text.SEMICOLON);
            code.add(Code.HALT, 0, 0);
        }
    }

    /** Nodes and arcs; the arcs from and to each node hang together by rising number. */
    private static final class Graph {
        static final int MOST_NODES = 40, MOST_ARCS = 120, COLUMNS = 4;

        int nodes;
        int arcs;
        final int[] froms = new int[MOST_ARCS];
        final int[] tos = new int[MOST_ARCS];
        private final int[] weights = new int[MOST_ARCS * COLUMNS];
        final int[] degrees = new int[MOST_NODES];
        final int[] indegrees = new int[MOST_NODES];
        private final int[] firstFrom = new int[MOST_NODES];
        private final int[] lastFrom = new int[MOST_NODES];
        private final int[] nextFrom = new int[MOST_ARCS];
        private final int[] firstTo = new int[MOST_NODES];
        private final int[] lastTo = new int[MOST_NODES];
        private final int[] nextTo = new int[MOST_ARCS];

        Graph() {
            clear(1);
        }

        void clear(int howMany) {
            nodes = howMany;
            arcs = 0;
            Arrays.fill(weights, 0);
            Arrays.fill(degrees, 0);
            Arrays.fill(indegrees, 0);
            Arrays.fill(firstFrom, -1);
            Arrays.fill(firstTo, -1);
        }

        boolean hasNode(int node) {
            return node >= 0 && node < nodes;
        }

        int add(int from, int to) {
            int arc = arcs;
            froms[arc] = from;
            tos[arc] = to;
            hang(arc, from, firstFrom, lastFrom, nextFrom);
            hang(arc, to, firstTo, lastTo, nextTo);
            degrees[from]++;
            indegrees[to]++;
            arcs++;
            return arc;
        }

        private static void hang(int arc, int node, int[] firsts, int[] lasts, int[] nexts) {
            if (firsts[node] < 0) {
                firsts[node] = arc;
            } else {
                nexts[lasts[node]] = arc;
            }
            lasts[node] = arc;
            nexts[arc] = -1;
        }

        int firstArc(int node, boolean against) {
            return against ? firstTo[node] : firstFrom[node];
        }

        int nextArc(int arc, boolean against) {
            return against ? nextTo[arc] : nextFrom[arc];
        }

        int otherEnd(int arc, boolean against) {
            return against ? froms[arc] : tos[arc];
        }

        int weightOf(int arc, int column) {
            return weights[arc * COLUMNS + column];
        }

        int setWeight(int arc, int column, int v) {
            int before = weightOf(arc, column);
            weights[arc * COLUMNS + column] = v;
            return before;
        }
    }

    /** All that a TURN finds: what undo() and a FAILURE go back to. */
    private static final class Moment {
        int turn;
        int messages;
        final int[] states = new int[Graph.MOST_NODES * Lot.MOST_STATES];
        final boolean[] resting = new boolean[Graph.MOST_NODES];
        final int[] came = new int[Graph.MOST_NODES * Lot.MOST_FOLDS];
        final int[] cameTimes = new int[Graph.MOST_NODES * Lot.MOST_FOLDS];
        final int[] given = new int[Lot.MOST_GLOBALS];
        final int[] givenTimes = new int[Lot.MOST_GLOBALS];

        void beginAs(Program program) {
            turn = 0;
            for (int node = 0; node < Graph.MOST_NODES; node++) {
                System.arraycopy(program.firstStates, 0, states, node * Lot.MOST_STATES, Lot.MOST_STATES);
                resting[node] = false;
            }
            forgetMessages(program);
        }

        void follow(Moment before, Program program) {
            turn = before.turn + 1;
            System.arraycopy(before.states, 0, states, 0, states.length);
            System.arraycopy(before.resting, 0, resting, 0, resting.length);
            forgetMessages(program);
        }

        private void forgetMessages(Program program) {
            messages = 0;
            for (int i = 0; i < came.length; i++) {
                came[i] = Program.nothing(program.foldWays[i % Lot.MOST_FOLDS]);
            }
            Arrays.fill(cameTimes, 0);
            for (int k = 0; k < given.length; k++) {
                given[k] = Program.nothing(program.globalWays[k]);
            }
            Arrays.fill(givenTimes, 0);
        }

        boolean wakes(int node) {
            for (int fold = 0; fold < Lot.MOST_FOLDS; fold++) {
                if (cameTimes[node * Lot.MOST_FOLDS + fold] > 0) {
                    return true;
                }
            }
            return false;
        }

        void deliver(Program program, int node, int fold, int v) {
            int at = node * Lot.MOST_FOLDS + fold;
            came[at] = Program.folded(program.foldWays[fold], came[at], cameTimes[at], v);
            cameTimes[at]++;
            messages++;
        }

        void give(Program program, int k, int v) {
            given[k] = Program.folded(program.globalWays[k], given[k], givenTimes[k], v);
            givenTimes[k]++;
        }

        int restingOf(int nodes) {
            int sum = 0;
            for (int node = 0; node < nodes && node < resting.length; node++) {
                if (resting[node]) {
                    sum++;
                }
            }
            return sum;
        }
    }

    /** Does what one node does in one TURN: reads the moment before, writes the one after. */
    private static final class Worker {
        private static final int MOST_STEPS = 1000;
        // Far above it: between two STEPS lie a few deeds at most.
        private static final int MOST_DEEDS = 1000000;
        // An exp within 12 others leaves at most three operands of each waiting.
        private static final int STACK_ROOM = 64;
        private static final int LOOP_ROOM = 16;

        private final Program program;
        private final Code code;
        private final Graph graph;
        private final int[] stack = new int[STACK_ROOM];
        private final int[] lets = new int[Lot.MOST_LETS];
        private final int[] repeatsLeft = new int[LOOP_ROOM];
        private Moment before;
        private Moment after;
        private int seed;
        private int node;
        private int top;
        private int next;
        private int arc;
        private boolean against;
        private int drawn;
        int steps;
        int failure;
        int failurePlace;

        Worker(Program program, Graph graph, Moment first) {
            this.program = program;
            this.code = program.code;
            this.graph = graph;
            before = first;
            after = first;
        }

        void setTurn(int runSeed, Moment from, Moment to) {
            seed = runSeed;
            before = from;
            after = to;
        }

        void work(int who) {
            node = who;
            top = 0;
            drawn = 0;
            steps = 0;
            failure = 0;
            next = before.turn == 0 ? program.startAt : program.roundAt;
            for (int n = 0; n < MOST_DEEDS && next >= 0 && next < code.size; n++) {
                int here = next;
                next++;
                perform(here, code.deeds[here]);
            }
        }

        private void perform(int here, int deed) {
            if (deed <= Code.LAST_STEP && !countStep(here)) {
                return;
            }
            if (deed <= Code.LAST_OPERAND) {
                push(operand(deed, code.args[here]));
            } else if (deed <= Code.LAST_OPERATOR) {
                operate(here, deed);
            } else if (deed <= Code.LAST_FLOW) {
                flow(here, deed);
            } else {
                act(deed, code.args[here]);
            }
        }

        private boolean countStep(int here) {
            if (steps >= MOST_STEPS) {
                fail(3, code.homes[here]);
                return false;
            }
            steps++;
            return true;
        }

        private void fail(int what, int place) {
            failure = what;
            failurePlace = place;
            next = -1;
        }

        private void push(int v) {
            if (top < stack.length) {
                stack[top] = v;
                top++;
            }
        }

        private int pop() {
            if (top <= 0) {
                return 0;
            }
            top--;
            return stack[top];
        }

        private int operand(int deed, int arg) {
            switch (deed) {
                case Code.NUMBER:
                    return arg;
                case Code.STATE:
                    return after.states[node * Lot.MOST_STATES + arg];
                case Code.LET:
                    return lets[arg];
                case Code.FOLD:
                    return before.came[node * Lot.MOST_FOLDS + arg];
                case Code.GLOBAL:
                    return before.given[arg];
                case Code.COLUMN:
                    return graph.weightOf(arc, arg);
                case Code.HAS:
                    return before.cameTimes[node * Lot.MOST_FOLDS + arg] > 0 ? 1 : 0;
                case Code.ID:
                    return node;
                case Code.TURN:
                    return before.turn;
                case Code.NODES:
                    return graph.nodes;
                case Code.DEGREE:
                    return graph.degrees[node];
                default:
                    return graph.indegrees[node];
            }
        }

        private void operate(int here, int deed) {
            int last = pop();
            switch (deed) {
                case Code.NEGATE:
                    push(-last);
                    break;
                case Code.INVERT:
                    push(1 - last);
                    break;
                case Code.DRAW:
                    if (last < 1) {
                        fail(2, code.marks[here]);
                    } else {
                        push(draw(last));
                    }
                    break;
                default:
                    binary(here, pop(), last);
                    break;
            }
        }

        private int draw(int below) {
            int h = mixed(mixed(mixed(seed, node), before.turn), drawn);
            drawn++;
            return (int) ((h & 0xFFFFFFFFL) % below);
        }

        private static int mixed(int h, int x) {
            int product = (h ^ x) * 0x9E3779B1;
            return product ^ (product >>> 15);
        }

        private void binary(int here, int left, int right) {
            int sign = code.args[here];
            if ((sign == Text.DIVIDE || sign == Text.REST) && right == 0) {
                fail(1, code.marks[here]);
            } else if (sign == Text.DIVIDE) {
                push(left / right);
            } else if (sign == Text.REST) {
                push(left % right);
            } else {
                push(combined(sign, left, right));
            }
        }

        private static int combined(int sign, int left, int right) {
            switch (sign) {
                case Text.PLUS:
                    return left + right;
                case Text.MINUS:
                    return left - right;
                case Text.TIMES:
                    return left * right;
                case Text.EQUAL:
                    return left == right ? 1 : 0;
                case Text.UNEQUAL:
                    return left != right ? 1 : 0;
                case Text.LESS:
                    return left < right ? 1 : 0;
                case Text.AT_MOST:
                    return left <= right ? 1 : 0;
                case Text.MORE:
                    return left > right ? 1 : 0;
                default:
                    return left >= right ? 1 : 0;
            }
        }

        private void flow(int here, int deed) {
            int to = code.args[here];
            switch (deed) {
                case Code.AND:
                    keepOrDrop(0, to);
                    break;
                case Code.OR:
                    keepOrDrop(1, to);
                    break;
                case Code.CHOOSE:
                case Code.UNLESS:
                    if (pop() == 0) {
                        next = to;
                    }
                    break;
                case Code.JUMP:
                    next = to;
                    break;
                case Code.LOOP:
                    setRepeats(code.marks[here], to);
                    break;
                case Code.REPEAT:
                    repeat(here, code.marks[here], to);
                    break;
                case Code.FIRST:
                    against = code.marks[here] == 1;
                    arc = graph.firstArc(node, against);
                    if (arc < 0) {
                        next = to;
                    } else {
                        countStep(here);
                    }
                    break;
                case Code.NEXT:
                    arc = graph.nextArc(arc, against);
                    if (arc >= 0 && countStep(here)) {
                        next = to;
                    }
                    break;
                default:
                    break;
            }
        }

        /** && and ||: a first operand that settles it stays as the answer. */
        private void keepOrDrop(int settles, int to) {
            int first = pop();
            if (first == settles) {
                push(first);
                next = to;
            }
        }

        private void setRepeats(int loop, int times) {
            if (loop >= 0 && loop < repeatsLeft.length) {
                repeatsLeft[loop] = times;
            }
        }

        private void repeat(int here, int loop, int to) {
            if (loop < 0 || loop >= repeatsLeft.length || repeatsLeft[loop] <= 0) {
                next = to;
            } else if (countStep(here)) {
                repeatsLeft[loop]--;
            }
        }

        private void act(int deed, int arg) {
            switch (deed) {
                case Code.SET_STATE:
                    after.states[node * Lot.MOST_STATES + arg] = pop();
                    break;
                case Code.SET_LET:
                    lets[arg] = pop();
                    break;
                case Code.SEND:
                    after.deliver(program, graph.otherEnd(arc, against), arg, pop());
                    break;
                case Code.GIVE:
                    after.give(program, arg, pop());
                    break;
                case Code.HALT:
                    after.resting[node] = true;
                    next = -1;
                    break;
                default:
                    next = -1;
                    break;
            }
        }
    }

    /** A RUN: the moment that it has come to, those that can be gone back to, and its latest FAILURE. */
    private static final class Machine {
        private static final int MOST_KEPT = 6;
        // The kept ones, the one of now, and one in which a TURN that may fail is tried.
        private static final int ROOM = MOST_KEPT + 2;

        private final Program program;
        private final Graph graph;
        private final Worker worker;
        private final Moment[] moments = new Moment[ROOM];
        private int nowAt;
        private int seed;
        private int stepsOfLast;
        private int failure, failureNode, failurePlace, failureTurn;
        boolean running;
        int kept;

        Machine(Program program, Graph graph) {
            this.program = program;
            this.graph = graph;
            for (int i = 0; i < ROOM; i++) {
                moments[i] = new Moment();
            }
            worker = new Worker(program, graph, moments[0]);
        }

        Moment now() {
            return moments[nowAt];
        }

        void setOut(int runSeed) {
            running = true;
            seed = runSeed;
            nowAt = 0;
            kept = 0;
            stepsOfLast = 0;
            failure = 0;
            failureNode = 0;
            failurePlace = 0;
            failureTurn = 0;
            now().beginAs(program);
        }

        boolean hasEnded() {
            return now().messages == 0 && now().restingOf(graph.nodes) == graph.nodes;
        }

        /** Whether it was done; if not, the moment of now has not been touched. */
        boolean doTurn() {
            Moment before = now();
            int afterAt = (nowAt + 1) % ROOM;
            Moment after = moments[afterAt];
            after.follow(before, program);
            worker.setTurn(seed, before, after);
            int steps = 0;
            for (int node = 0; node < graph.nodes; node++) {
                if (!before.resting[node] || before.wakes(node)) {
                    after.resting[node] = false;
                    worker.work(node);
                    if (worker.failure != 0) {
                        noteFailure(node, before.turn);
                        return false;
                    }
                    steps += worker.steps;
                }
            }
            stepsOfLast = steps;
            nowAt = afterAt;
            kept = Math.min(kept + 1, MOST_KEPT);
            return true;
        }

        private void noteFailure(int node, int turn) {
            failure = worker.failure;
            failureNode = node;
            failurePlace = worker.failurePlace;
            failureTurn = turn;
        }

        void goBack() {
            if (kept > 0) {
                kept--;
                nowAt = (nowAt + ROOM - 1) % ROOM;
            }
        }

        int tell(int what) {
            switch (what) {
                case 0:
                    return now().turn;
                case 1:
                    return hasEnded() ? 1 : 0;
                case 2:
                    return now().messages;
                case 3:
                    return now().restingOf(graph.nodes);
                case 4:
                    return failure;
                case 5:
                    return failureNode;
                case 6:
                    return failurePlace;
                case 7:
                    return failureTurn;
                case 8:
                    return kept;
                case 9:
                    return stepsOfLast;
                default:
                    return BAD;
            }
        }
    }
}
