import java.math.BigInteger;
import java.util.ArrayDeque;
import java.util.ArrayList;
import java.util.Arrays;
import java.util.HashMap;
import java.util.LinkedHashMap;
import java.util.List;
import java.util.Map;
import java.util.Set;
import java.util.regex.Matcher;
import java.util.regex.Pattern;

/**
 * The document once more, written another way than the class: trees, passes of their own for faults 1, 2 and
 * 3 to 5, whole copies for undo. OracleTest lets both answer the same calls.
 */
final class Oracle {
    private static final int BAD = -1, NONE = -2, FULL = -3, FAILED = -4;
    private static final Pattern TOKEN = Pattern.compile(
        "[A-Za-z][A-Za-z0-9]*|[0-9]+|==|!=|<=|>=|&&|\\|\\||[;{}(),.:=<>+\\-*/%!]");
    private static final Set<String> RESERVED = Set.of("column", "node", "int", "bool", "true", "false", "fold",
        "global", "sum", "least", "most", "first", "all", "some", "start", "round", "let", "send", "along",
        "against", "give", "if", "else", "loop", "halt", "arc", "has", "id", "turn", "nodes", "degree",
        "indegree", "draw");
    private static final Set<String> WAYS = Set.of("sum", "least", "most", "first", "all", "some");
    private static final Set<String> FACTS = Set.of("id", "turn", "nodes", "degree", "indegree");
    private static final List<Set<String>> LINES = List.of(Set.of("||"), Set.of("&&"),
        Set.of("==", "!=", "<", "<=", ">", ">="), Set.of("+", "-"), Set.of("*", "/", "%"));
    private static final int TEST = 2, UNARY = 5, BASE = 6;

    private record Token(String text, int place, boolean fine) {
        boolean isName() {
            return fine && Character.isLetter(text.charAt(0)) && !RESERVED.contains(text);
        }

        boolean isNumber() {
            return fine && Character.isDigit(text.charAt(0));
        }
    }

    private static final class Stop extends RuntimeException {
        private static final long serialVersionUID = 1;
        final int fault;
        final int place;

        Stop(int fault, int place) {
            this.fault = fault;
            this.place = place;
        }
    }

    /** A node of an exp: what it is, its tokens, its parts. */
    private static final class Exp {
        final String what;
        final Token first;
        Token own;
        final List<Exp> parts = new ArrayList<>();
        char kind;
        int slot;

        Exp(String what, Token first, Token own) {
            this.what = what;
            this.first = first;
            this.own = own;
        }

        int line() {
            if (what.equals("binary")) {
                for (int i = 0; i < LINES.size(); i++) {
                    if (LINES.get(i).contains(own.text())) {
                        return i;
                    }
                }
            }
            return what.equals("unary") ? UNARY : BASE;
        }
    }

    /** ( ) stay in the tree, since a fault is told at the (. */
    private static Exp bare(Exp e) {
        Exp inner = e;
        while (inner.what.equals("group")) {
            inner = inner.parts.get(0);
        }
        return inner;
    }

    private static final class Statement {
        final Token first;
        Token name;
        Exp exp;
        String way;
        int times;
        List<Statement> body;
        List<Statement> other;

        Statement(Token first) {
            this.first = first;
        }
    }

    private record Told(String sort, Token name, String way, int value, Token minus, Token number) { }

    // ---- reading

    private final List<Token> tokens = new ArrayList<>();
    private int at;
    private int textLength;
    private int statements;
    private final ArrayDeque<Integer> letsSeen = new ArrayDeque<>();
    private List<Told> told = new ArrayList<>();
    private List<Statement> start;
    private List<Statement> round;

    private void cut(String text) {
        tokens.clear();
        at = 0;
        textLength = text.length();
        int i = 0;
        while (i < text.length()) {
            char c = text.charAt(i);
            if (c == ' ' || c == '\n') {
                i++;
            } else if (c == '#') {
                int end = text.indexOf('\n', i);
                i = end < 0 ? text.length() : end;
            } else {
                Matcher m = TOKEN.matcher(text);
                m.region(i, text.length());
                if (!m.lookingAt()) {
                    tokens.add(new Token("?", i, false));
                    return;
                }
                String t = m.group();
                boolean fine = Character.isDigit(t.charAt(0))
                    ? new BigInteger(t).compareTo(BigInteger.valueOf(Integer.MAX_VALUE)) <= 0
                    : t.length() <= 12;
                tokens.add(new Token(t, i, fine));
                i += t.length();
            }
        }
    }

    private Token look() {
        return at < tokens.size() ? tokens.get(at) : new Token("?", textLength, false);
    }

    private boolean sees(String text) {
        return look().fine() && look().text().equals(text);
    }

    private Token pass(boolean can) {
        Token t = look();
        if (!can || !t.fine()) {
            throw new Stop(1, t.place());
        }
        if (at >= 1000) {
            throw new Stop(2, t.place());
        }
        at++;
        return t;
    }

    private Token need(String... texts) {
        return pass(Arrays.asList(texts).contains(look().text()));
    }

    private Token number() {
        return pass(look().isNumber());
    }

    private Token newName(long there, int most) {
        if (look().isName() && there >= most) {
            throw new Stop(2, look().place());
        }
        return pass(look().isName());
    }

    private void readProgram() {
        told = new ArrayList<>();
        statements = 0;
        letsSeen.clear();
        while (sees("column") || sees("node") || sees("fold") || sees("global")) {
            readTold();
        }
        need("start");
        start = block(0);
        need("round");
        round = block(0);
        if (at < tokens.size()) {
            throw new Stop(1, look().place());
        }
    }

    private void readTold() {
        String sort = need("column", "node", "fold", "global").text();
        long there = told.stream().filter(t -> t.sort().equals(sort)).count();
        Token name = newName(there, sort.equals("node") ? 8 : 4);
        String way = "int";
        int value = 0;
        Token minus = null;
        Token number = null;
        if (!sort.equals("column")) {
            need(":");
            if (sort.equals("node")) {
                way = need("int", "bool").text();
                need("=");
                if (way.equals("bool")) {
                    value = need("true", "false").text().equals("true") ? 1 : 0;
                } else {
                    minus = sees("-") ? need("-") : null;
                    number = number();
                    value = Integer.parseInt(number.text()) * (minus == null ? 1 : -1);
                }
            } else {
                way = pass(WAYS.contains(look().text())).text();
            }
        }
        need(";");
        told.add(new Told(sort, name, way, value, minus, number));
    }

    private List<Statement> block(int within) {
        if (sees("{") && within > 12) {
            throw new Stop(2, look().place());
        }
        need("{");
        letsSeen.push(0);
        List<Statement> all = new ArrayList<>();
        while (!sees("}")) {
            all.add(statement(within + 1));
        }
        letsSeen.pop();
        need("}");
        return all;
    }

    private Statement statement(int within) {
        Token first = look();
        boolean can = first.isName()
            || first.fine() && Set.of("let", "send", "give", "if", "loop", "halt").contains(first.text());
        if (can && statements == 120) {
            throw new Stop(2, first.place());
        }
        pass(can);
        statements++;
        Statement s = new Statement(first);
        if (first.isName()) {
            s.name = first;
            need("=");
            s.exp = exp(within);
            need(";");
            return s;
        }
        switch (first.text()) {
            case "let" -> {
                s.name = newName(letsSeen.stream().mapToInt(Integer::intValue).sum(), 8);
                need("=");
                s.exp = exp(within);
                need(";");
                letsSeen.push(letsSeen.pop() + 1);
            }
            case "send" -> {
                s.name = pass(look().isName());
                s.exp = exp(within);
                s.way = need("along", "against").text();
                need(";");
            }
            case "give" -> {
                s.name = pass(look().isName());
                s.exp = exp(within);
                need(";");
            }
            case "if" -> {
                s.exp = exp(within);
                s.body = block(within);
                if (sees("else")) {
                    need("else");
                    s.other = block(within);
                }
            }
            case "loop" -> {
                if (look().isNumber() && Integer.parseInt(look().text()) > 100) {
                    throw new Stop(2, look().place());
                }
                s.name = number();
                s.times = Integer.parseInt(s.name.text());
                s.body = block(within);
            }
            default -> need(";");
        }
        return s;
    }

    private boolean beginsExp() {
        Token t = look();
        return t.isName() || t.isNumber() || t.fine() && (FACTS.contains(t.text())
            || Set.of("true", "false", "arc", "has", "draw", "if", "(", "-", "!").contains(t.text()));
    }

    private void lookHowDeep(int within) {
        if (!beginsExp()) {
            throw new Stop(1, look().place());
        }
        if (within > 12) {
            throw new Stop(2, look().place());
        }
    }

    private Exp exp(int within) {
        lookHowDeep(within);
        return line(0, within);
    }

    private Exp line(int line, int within) {
        if (line == LINES.size()) {
            return one(within);
        }
        Exp left = line(line + 1, within);
        while (look().fine() && LINES.get(line).contains(look().text())) {
            Token sign = pass(true);
            Exp e = new Exp("binary", left.first, sign);
            e.parts.add(left);
            e.parts.add(line(line + 1, within));
            left = e;
            if (line == TEST) {
                break;
            }
        }
        return left;
    }

    private Exp one(int within) {
        if (!sees("-") && !sees("!")) {
            return base(within);
        }
        Token sign = need("-", "!");
        lookHowDeep(within + 1);
        Exp e = new Exp("unary", sign, sign);
        e.parts.add(one(within + 1));
        return e;
    }

    private Exp base(int within) {
        Token t = pass(beginsExp());
        if (t.isNumber()) {
            return new Exp("number", t, t);
        }
        if (t.isName()) {
            return new Exp("name", t, t);
        }
        Exp e = new Exp(t.text().equals("(") ? "group" : t.text(), t, t);
        switch (t.text()) {
            case "arc" -> {
                need(".");
                e.own = pass(look().isName());
            }
            case "has" -> e.own = pass(look().isName());
            case "draw" -> {
                need("(");
                e.parts.add(exp(within + 1));
                need(")");
            }
            case "(" -> {
                e.parts.add(exp(within + 1));
                need(")");
            }
            case "if" -> {
                need("(");
                e.parts.add(exp(within + 1));
                need(",");
                e.parts.add(exp(within + 1));
                need(",");
                e.parts.add(exp(within + 1));
                need(")");
            }
            default -> { }
        }
        return e;
    }

    // ---- judging: i int, b bool, a any

    private record Known(String sort, int number, char kind) { }

    private final Map<String, Known> outer = new LinkedHashMap<>();
    private final List<int[]> blamed = new ArrayList<>();
    private boolean inSend;

    private void blame(int fault, Token t) {
        blamed.add(new int[] {t.place(), fault});
    }

    private void judge() {
        outer.clear();
        blamed.clear();
        Map<String, Integer> many = new HashMap<>();
        for (Told t : told) {
            int number = many.merge(t.sort(), 1, Integer::sum) - 1;
            char kind = Set.of("bool", "all", "some").contains(t.way()) ? 'b' : 'i';
            if (outer.putIfAbsent(t.name().text(), new Known(t.sort(), number, kind)) != null) {
                blame(3, t.name());
            }
        }
        judgeBlock(start, new HashMap<>(outer), 0);
        judgeBlock(round, new HashMap<>(outer), 0);
    }

    private void judgeBlock(List<Statement> block, Map<String, Known> seen, int lets) {
        Map<String, Known> here = new HashMap<>(seen);
        int slot = lets;
        for (Statement s : block) {
            String what = s.first.isName() ? "=" : s.first.text();
            Known k = s.name == null ? null : here.get(s.name.text());
            String sort = k == null ? "" : k.sort();
            switch (what) {
                case "=" -> {
                    boolean fits = sort.equals("node") || sort.equals("let");
                    bind(s, fits, k, here);
                }
                case "let" -> {
                    if (k != null) {
                        blame(3, s.name);
                    }
                    kindOf(s.exp, here);
                    here.put(s.name.text(), new Known("let", slot, s.exp.kind));
                    s.times = slot;
                    slot++;
                }
                case "send" -> {
                    inSend = true;
                    bind(s, sort.equals("fold"), k, here);
                    inSend = false;
                }
                case "give" -> bind(s, sort.equals("global"), k, here);
                case "if" -> {
                    must(s.exp, 'b', here);
                    judgeBlock(s.body, here, slot);
                    if (s.other != null) {
                        judgeBlock(s.other, here, slot);
                    }
                }
                case "loop" -> judgeBlock(s.body, here, slot);
                default -> { }
            }
        }
    }

    private void bind(Statement s, boolean fits, Known k, Map<String, Known> seen) {
        if (!fits) {
            blame(4, s.name);
            kindOf(s.exp, seen);
        } else {
            must(s.exp, k.kind(), seen);
            s.times = k.number();
            s.way = s.way == null ? k.sort() : s.way;
        }
    }

    private void must(Exp e, char kind, Map<String, Known> seen) {
        char has = kindOf(e, seen);
        if (has != 'a' && kind != 'a' && has != kind) {
            blame(5, e.first);
        }
    }

    private char kindOf(Exp e, Map<String, Known> seen) {
        e.kind = judged(e, seen);
        return e.kind;
    }

    private char judged(Exp e, Map<String, Known> seen) {
        Known k = e.own == null ? null : seen.get(e.own.text());
        String sort = k == null ? "" : k.sort();
        switch (e.what) {
            case "true", "false":
                return 'b';
            case "name":
                return named(e, k, !sort.isEmpty() && !sort.equals("column"), k == null ? 'a' : k.kind());
            case "arc":
                return named(e, k, inSend && sort.equals("column"), 'i');
            case "has":
                return named(e, k, sort.equals("fold"), 'b');
            case "draw":
                must(e.parts.get(0), 'i', seen);
                return 'i';
            case "group":
                return kindOf(e.parts.get(0), seen);
            case "if":
                must(e.parts.get(0), 'b', seen);
                char second = kindOf(e.parts.get(1), seen);
                must(e.parts.get(2), second, seen);
                return second == 'a' ? e.parts.get(2).kind : second;
            case "unary":
                char kind = e.own.text().equals("!") ? 'b' : 'i';
                must(e.parts.get(0), kind, seen);
                return kind;
            case "binary":
                return judgedBinary(e, seen);
            default:
                return 'i';
        }
    }

    private char named(Exp e, Known k, boolean fits, char kind) {
        if (!fits) {
            blame(4, e.own);
            return 'a';
        }
        e.slot = k.number();
        if (e.what.equals("name")) {
            e.own = new Token(k.sort(), e.own.place(), true);
        }
        return kind;
    }

    private char judgedBinary(Exp e, Map<String, Known> seen) {
        String sign = e.own.text();
        if (sign.equals("==") || sign.equals("!=")) {
            must(e.parts.get(1), kindOf(e.parts.get(0), seen), seen);
            return 'b';
        }
        boolean bools = sign.equals("&&") || sign.equals("||");
        must(e.parts.get(0), bools ? 'b' : 'i', seen);
        must(e.parts.get(1), bools ? 'b' : 'i', seen);
        return e.line() <= TEST ? 'b' : 'i';
    }

    // ---- printing: before judging, which puts sorts in place of names

    private final List<String> out = new ArrayList<>();

    private String printed() {
        out.clear();
        for (Told t : told) {
            say(t.sort(), t.name().text());
            if (!t.sort().equals("column")) {
                say(":", t.way());
            }
            if (t.sort().equals("node")) {
                say("=");
                if (t.minus() != null) {
                    say("-");
                }
                say(t.number() != null ? t.number().text() : t.value() == 1 ? "true" : "false");
            }
            say(";");
        }
        say("start");
        printBlock(start);
        say("round");
        printBlock(round);
        return String.join(" ", out);
    }

    private void say(String... words) {
        out.addAll(Arrays.asList(words));
    }

    private void printBlock(List<Statement> block) {
        say("{");
        for (Statement s : block) {
            say(s.first.text());
            if (s.name != null && s.name != s.first) {
                say(s.name.text());
            }
            if (s.first.isName() || s.first.text().equals("let")) {
                say("=");
            }
            if (s.exp != null) {
                printExp(s.exp, 0);
            }
            if (s.way != null) {
                say(s.way);
            }
            if (s.body != null) {
                printBlock(s.body);
                if (s.other != null) {
                    say("else");
                    printBlock(s.other);
                }
            } else {
                say(";");
            }
        }
        say("}");
    }

    private void printExp(Exp whole, int line) {
        Exp e = bare(whole);
        if (e.line() < line) {
            say("(");
            printExp(e, 0);
            say(")");
            return;
        }
        switch (e.what) {
            case "binary" -> {
                printExp(e.parts.get(0), e.line() == TEST ? TEST + 1 : e.line());
                say(e.own.text());
                printExp(e.parts.get(1), e.line() + 1);
            }
            case "unary" -> {
                say(e.own.text());
                printExp(e.parts.get(0), UNARY);
            }
            case "arc" -> say("arc", ".", e.own.text());
            case "has" -> say("has", e.own.text());
            case "draw", "if" -> {
                say(e.what, "(");
                for (int i = 0; i < e.parts.size(); i++) {
                    if (i > 0) {
                        say(",");
                    }
                    printExp(e.parts.get(i), 0);
                }
                say(")");
            }
            default -> say(e.own.text());
        }
    }

    // ---- running

    private static final class Failure extends RuntimeException {
        private static final long serialVersionUID = 1;
        final int what;
        final int place;

        Failure(int what, int place) {
            this.what = what;
            this.place = place;
        }
    }

    private static final class Halt extends RuntimeException {
        private static final long serialVersionUID = 1;
    }

    private static final class World {
        int turn;
        int[][] states;
        boolean[] halted;
        List<List<List<Integer>>> mail = new ArrayList<>();
        List<List<Integer>> given = new ArrayList<>();

        static World of(int nodes, int folds, int globals) {
            World w = new World();
            for (int i = 0; i < nodes; i++) {
                List<List<Integer>> box = new ArrayList<>();
                for (int f = 0; f < folds; f++) {
                    box.add(new ArrayList<>());
                }
                w.mail.add(box);
            }
            for (int g = 0; g < globals; g++) {
                w.given.add(new ArrayList<>());
            }
            return w;
        }

        int messages() {
            return mail.stream().mapToInt(box -> box.stream().mapToInt(List::size).sum()).sum();
        }

        int rests() {
            int sum = 0;
            for (boolean h : halted) {
                sum += h ? 1 : 0;
            }
            return sum;
        }
    }

    private StringBuilder tape = new StringBuilder();
    private boolean stands;
    private int faultPlace = -1;
    private int faultLine;
    private String print = "";
    private int nodes = 1;
    private final List<int[]> arcs = new ArrayList<>();
    private final List<World> history = new ArrayList<>();
    private World world;
    private World coming;
    private int seed;
    private int lastSteps;
    private int[] latest = new int[4];

    private int node;
    private int steps;
    private int drawn;
    private int[] lets = new int[8];
    private int[] arc;
    private Token doing;

    private void step(Token statement) {
        steps++;
        if (steps > 1000) {
            throw new Failure(3, statement.place());
        }
    }

    private List<Told> of(String sort) {
        return told.stream().filter(t -> t.sort().equals(sort)).toList();
    }

    private static int fold(String way, List<Integer> what) {
        return switch (way) {
            case "sum" -> what.stream().reduce(0, Integer::sum);
            case "least" -> what.stream().reduce(Integer.MAX_VALUE, Integer::min);
            case "most" -> what.stream().reduce(Integer.MIN_VALUE, Integer::max);
            case "first" -> what.isEmpty() ? 0 : what.get(0);
            case "all" -> what.contains(0) ? 0 : 1;
            default -> what.contains(1) ? 1 : 0;
        };
    }

    private void work(List<Statement> block) {
        for (Statement s : block) {
            doing = s.first;
            step(s.first);
            if (s.first.isName()) {
                int v = value(s.exp);
                if (s.way.equals("let")) {
                    lets[s.times] = v;
                } else {
                    coming.states[node][s.times] = v;
                }
                continue;
            }
            switch (s.first.text()) {
                case "let" -> lets[s.times] = value(s.exp);
                case "send" -> {
                    boolean along = s.way.equals("along");
                    for (int[] a : arcs) {
                        if (a[along ? 0 : 1] == node) {
                            step(s.first);
                            arc = a;
                            coming.mail.get(a[along ? 1 : 0]).get(s.times).add(value(s.exp));
                        }
                    }
                }
                case "give" -> coming.given.get(s.times).add(value(s.exp));
                case "if" -> {
                    if (value(s.exp) == 1) {
                        work(s.body);
                    } else if (s.other != null) {
                        work(s.other);
                    }
                }
                case "loop" -> {
                    for (int i = 0; i < s.times; i++) {
                        step(s.first);
                        work(s.body);
                    }
                }
                default -> throw new Halt();
            }
        }
    }

    private int value(Exp e) {
        switch (e.what) {
            case "group":
                return value(e.parts.get(0));
            case "binary":
                return valueOfBinary(e);
            case "unary":
                int v = value(e.parts.get(0));
                step(doing);
                return e.own.text().equals("-") ? -v : 1 - v;
            case "draw":
                int n = value(e.parts.get(0));
                step(doing);
                if (n < 1) {
                    throw new Failure(2, e.first.place());
                }
                return drawOne(n);
            case "if":
                int c = value(e.parts.get(0));
                step(doing);
                return value(e.parts.get(c == 1 ? 1 : 2));
            default:
                step(doing);
                return operand(e);
        }
    }

    private int operand(Exp e) {
        return switch (e.what) {
            case "number" -> Integer.parseInt(e.own.text());
            case "true" -> 1;
            case "false" -> 0;
            case "arc" -> arc[2 + e.slot];
            case "has" -> world.mail.get(node).get(e.slot).isEmpty() ? 0 : 1;
            case "id" -> node;
            case "turn" -> world.turn;
            case "nodes" -> nodes;
            case "degree" -> (int) arcs.stream().filter(a -> a[0] == node).count();
            case "indegree" -> (int) arcs.stream().filter(a -> a[1] == node).count();
            default -> switch (e.own.text()) {
                case "node" -> coming.states[node][e.slot];
                case "let" -> lets[e.slot];
                case "fold" -> fold(of("fold").get(e.slot).way(), world.mail.get(node).get(e.slot));
                default -> fold(of("global").get(e.slot).way(), world.given.get(e.slot));
            };
        };
    }

    private int drawOne(int n) {
        int h = seed;
        for (int x : new int[] {node, world.turn, drawn}) {
            h = (h ^ x) * 0x9E3779B1;
            h = h ^ (h >>> 15);
        }
        drawn++;
        return Integer.remainderUnsigned(h, n);
    }

    private int valueOfBinary(Exp e) {
        String sign = e.own.text();
        int l = value(e.parts.get(0));
        if (sign.equals("&&") || sign.equals("||")) {
            step(doing);
            return l == (sign.equals("&&") ? 0 : 1) ? l : value(e.parts.get(1));
        }
        int r = value(e.parts.get(1));
        step(doing);
        if (r == 0 && (sign.equals("/") || sign.equals("%"))) {
            throw new Failure(1, e.own.place());
        }
        return switch (sign) {
            case "+" -> l + r;
            case "-" -> l - r;
            case "*" -> l * r;
            case "/" -> l / r;
            case "%" -> l % r;
            case "==" -> l == r ? 1 : 0;
            case "!=" -> l != r ? 1 : 0;
            case "<" -> l < r ? 1 : 0;
            case "<=" -> l <= r ? 1 : 0;
            case ">" -> l > r ? 1 : 0;
            default -> l >= r ? 1 : 0;
        };
    }

    private boolean turn() {
        coming = World.of(nodes, of("fold").size(), of("global").size());
        coming.turn = world.turn + 1;
        coming.states = Arrays.stream(world.states).map(int[]::clone).toArray(int[][]::new);
        coming.halted = world.halted.clone();
        int sum = 0;
        for (node = 0; node < nodes; node++) {
            if (world.halted[node] && world.mail.get(node).stream().allMatch(List::isEmpty)) {
                continue;
            }
            coming.halted[node] = false;
            steps = 0;
            drawn = 0;
            try {
                work(world.turn == 0 ? start : round);
            } catch (Halt h) {
                coming.halted[node] = true;
            } catch (Failure f) {
                latest = new int[] {f.what, node, f.place, world.turn};
                return false;
            }
            sum += steps;
        }
        lastSteps = sum;
        history.add(world);
        if (history.size() > 6) {
            history.remove(0);
        }
        world = coming;
        return true;
    }

    private boolean ended() {
        return world.messages() == 0 && world.rests() == nodes;
    }

    // ---- the face

    int feed(int... numbers) {
        if (tape.length() + 20 > 4000) {
            return FULL;
        }
        for (int n : numbers) {
            for (int i = 3; i >= 0; i--) {
                tape.append((char) (n >> 8 * i & 255));
            }
        }
        return tape.length();
    }

    int end(int n) {
        if (n < 0 || n > 20 || tape.length() < 20) {
            return BAD;
        }
        tape.setLength(tape.length() - 20 + n);
        return tape.length();
    }

    int program() {
        String text = tape.toString();
        tape.setLength(0);
        world = null;
        stands = false;
        faultPlace = -1;
        int fault = 0;
        try {
            cut(text);
            readProgram();
            print = printed();
            judge();
            if (!blamed.isEmpty()) {
                blamed.sort((a, b) -> a[0] != b[0] ? a[0] - b[0] : a[1] - b[1]);
                faultPlace = blamed.get(0)[0];
                fault = blamed.get(0)[1];
            }
        } catch (Stop s) {
            fault = s.fault;
            faultPlace = s.place;
        }
        if (fault == 0) {
            stands = true;
            return statements;
        }
        faultLine = text.substring(0, faultPlace).split("\n", -1).length;
        return -10 - fault;
    }

    int fault(int what) {
        if (what != 0 && what != 1) {
            return BAD;
        }
        return faultPlace < 0 ? NONE : what == 0 ? faultPlace : faultLine;
    }

    int print(int i) {
        if (!stands || i < -1 || i >= print.length()) {
            return BAD;
        }
        return i < 0 ? print.length() : print.charAt(i);
    }

    int name() {
        if (!stands) {
            return BAD;
        }
        Known k = outer.get(tape.toString());
        tape.setLength(0);
        return k == null ? NONE : 100 * List.of("column", "node", "fold", "global").indexOf(k.sort()) + k.number();
    }

    int count(int what) {
        return switch (what) {
            case 0 -> stands ? of("column").size() : 0;
            case 1 -> stands ? of("node").size() : 0;
            case 2 -> stands ? of("fold").size() : 0;
            case 3 -> stands ? of("global").size() : 0;
            case 4 -> stands ? statements : 0;
            case 5 -> nodes;
            case 6 -> arcs.size();
            default -> BAD;
        };
    }

    int nodes(int n) {
        if (n < 1 || n > 40) {
            return BAD;
        }
        int before = nodes;
        nodes = n;
        arcs.clear();
        world = null;
        return before;
    }

    int arc(int from, int to) {
        if (from < 0 || from >= nodes || to < 0 || to >= nodes) {
            return BAD;
        }
        if (arcs.size() == 120) {
            return FULL;
        }
        world = null;
        arcs.add(new int[] {from, to, 0, 0, 0, 0});
        return arcs.size() - 1;
    }

    int weight(int which, int column, int v) {
        if (which < 0 || which >= arcs.size() || column < 0 || column > 3) {
            return 0;
        }
        int before = arcs.get(which)[2 + column];
        arcs.get(which)[2 + column] = v;
        return before;
    }

    int begin(int s) {
        if (!stands) {
            return BAD;
        }
        seed = s;
        world = World.of(nodes, of("fold").size(), of("global").size());
        int[] first = of("node").stream().mapToInt(Told::value).toArray();
        world.states = new int[nodes][];
        for (int i = 0; i < nodes; i++) {
            world.states[i] = first.clone();
        }
        world.halted = new boolean[nodes];
        history.clear();
        lastSteps = 0;
        latest = new int[4];
        return 1;
    }

    int run(int turns) {
        if (world == null || turns < 1 || turns > 100) {
            return BAD;
        }
        int done = 0;
        while (done < turns && !ended()) {
            if (!turn()) {
                return FAILED;
            }
            done++;
        }
        return done;
    }

    int undo() {
        if (world == null) {
            return BAD;
        }
        if (history.isEmpty()) {
            return NONE;
        }
        world = history.remove(history.size() - 1);
        return world.turn;
    }

    int told(int what) {
        if (world == null) {
            return BAD;
        }
        return switch (what) {
            case 0 -> world.turn;
            case 1 -> ended() ? 1 : 0;
            case 2 -> world.messages();
            case 3 -> world.rests();
            case 4, 5, 6, 7 -> latest[what - 4];
            case 8 -> history.size();
            case 9 -> lastSteps;
            default -> BAD;
        };
    }

    private boolean none(int which, int below) {
        return world == null || which < 0 || which >= below;
    }

    int state(int who, int k) {
        return none(who, nodes) || none(k, of("node").size()) ? 0 : world.states[who][k];
    }

    int message(int who, int f) {
        return none(who, nodes) || none(f, of("fold").size()) ? 0
            : fold(of("fold").get(f).way(), world.mail.get(who).get(f));
    }

    int messages(int who, int f) {
        return none(who, nodes) || none(f, of("fold").size()) ? BAD : world.mail.get(who).get(f).size();
    }

    int global(int k) {
        return none(k, of("global").size()) ? 0 : fold(of("global").get(k).way(), world.given.get(k));
    }

    int halted(int who) {
        return none(who, nodes) ? BAD : world.halted[who] ? 1 : 0;
    }
}
