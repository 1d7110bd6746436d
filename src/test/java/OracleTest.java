import java.util.ArrayList;
import java.util.List;
import java.util.Random;

/** Random texts, graphs and runs: the class and the Oracle have to answer every call alike. */
public final class OracleTest {
    private static final int ROUNDS = 3000;

    private static Random random = new Random(1);
    private static VertexLanguage x;
    private static Oracle o;
    private static String where = "";
    // What an object answers behind its 512th call is free.
    private static final int MOST_CALLS = 512;
    private static int calls;
    private static final int[] answers = new int[16];
    private static final int[] failures = new int[4];

    private OracleTest() { }

    public static void main(String[] args) {
        int rounds = args.length > 0 ? Integer.parseInt(args[0]) : ROUNDS;
        int from = args.length > 1 ? Integer.parseInt(args[1]) : 0;
        for (int i = from; i < from + rounds && Bench.allRight(); i++) {
            random = new Random(i);
            x = new VertexLanguage();
            o = new Oracle();
            calls = 0;
            for (int programs = 0; programs < 2 && Bench.allRight() && calls < MOST_CALLS / 2; programs++) {
                String text = text();
                where = "seed " + i + " [" + text + "] ";
                int answer = read(text);
                answers[answer < 0 ? -answer : 0]++;
                if (random.nextBoolean()) {
                    look();
                }
                if (random.nextInt(4) == 0) {
                    names();
                }
                graph();
                runs();
            }
        }
        if (args.length > 0) {
            System.out.println("faults 1 .. 5: " + answers[11] + " " + answers[12] + " " + answers[13] + " "
                + answers[14] + " " + answers[15] + ", none: " + answers[0]);
            System.out.println("failures 1 .. 3: " + failures[1] + " " + failures[2] + " " + failures[3]);
        }
        Bench.finish();
    }

    private static int same(String call, int got, int want) {
        calls++;
        if (calls <= MOST_CALLS) {
            Bench.due(where + call, got, want);
        }
        return want;
    }

    // ---- calls on both

    private static void feed(String text) {
        int i = 0;
        for (; i < text.length(); i += 20) {
            int[] n = Bench.numbers(text, i);
            same("feed", x.feed(n[0], n[1], n[2], n[3], n[4]), o.feed(n));
        }
        if (i > text.length()) {
            int n = text.length() - (i - 20);
            same("end", x.end(n), o.end(n));
        }
    }

    private static int read(String text) {
        feed(text);
        return same("program()", x.program(), o.program());
    }

    private static void look() {
        for (int i = -1; i < 3; i++) {
            same("fault(" + i + ")", x.fault(i), o.fault(i));
        }
        for (int i = -1; i < 8; i++) {
            same("count(" + i + ")", x.count(i), o.count(i));
        }
        int size = same("print(-1)", x.print(-1), o.print(-1));
        for (int i = -2; i <= size; i++) {
            same("print(" + i + ")", x.print(i), o.print(i));
        }
    }

    private static void names() {
        for (String name : List.of("a", "b", "c0", "f1", "g2", "n3", "v0", "zz", "start", " ", "")) {
            feed(name);
            same("name() of " + name, x.name(), o.name());
        }
    }

    private static void graph() {
        int nodes = random.nextInt(8) == 0 ? random.nextInt(44) - 1 : 1 + random.nextInt(6);
        same("nodes(" + nodes + ")", x.nodes(nodes), o.nodes(nodes));
        int there = o.count(5);
        int arcs = random.nextInt(20) == 0 ? 125 : random.nextInt(3 * there);
        for (int i = 0; i < arcs; i++) {
            int from = random.nextInt(there + 1) - random.nextInt(2);
            int to = random.nextInt(there);
            same("arc(" + from + ", " + to + ")", x.arc(from, to), o.arc(from, to));
        }
        for (int i = 0; i < arcs; i++) {
            int arc = random.nextInt(arcs + 1) - random.nextInt(2);
            int column = random.nextInt(5) - random.nextInt(2);
            int v = number();
            same("weight", x.weight(arc, column, v), o.weight(arc, column, v));
        }
    }

    private static int number() {
        return random.nextInt(4) == 0 ? random.nextInt() : random.nextInt(20) - 5;
    }

    private static void runs() {
        same("run(1)", x.run(1), o.run(1));
        same("undo()", x.undo(), o.undo());
        lookAtRun();
        for (int i = 0; i < 2; i++) {
            int seed = random.nextInt();
            same("begin(" + seed + ")", x.begin(seed), o.begin(seed));
            int looks = 1 + random.nextInt(4);
            for (int k = 0; k < 12 && calls < MOST_CALLS; k++) {
                runCall();
                if (k % looks == 0) {
                    lookAtRun();
                }
            }
        }
    }

    private static void runCall() {
        int turns = random.nextInt(10) == 0 ? random.nextInt(103) - 1 : 1 + random.nextInt(3);
        switch (random.nextInt(12)) {
            case 0, 1, 2 -> same("undo()", x.undo(), o.undo());
            case 3 -> same("weight", x.weight(0, 0, turns), o.weight(0, 0, turns));
            default -> {
                int done = same("run(" + turns + ")", x.run(turns), o.run(turns));
                failures[done == VertexLanguage.FAILED ? o.told(4) : 0]++;
            }
        }
    }

    private static void lookAtRun() {
        for (int i = -1; i < 11; i++) {
            same("told(" + i + ")", x.told(i), o.told(i));
        }
        int nodes = o.count(5);
        int step = nodes < 8 ? 1 : 1 + random.nextInt(nodes);
        for (int n = -1; n <= nodes; n += step) {
            same("halted(" + n + ")", x.halted(n), o.halted(n));
            for (int k = -1; k <= o.count(1); k++) {
                same("state(" + n + ", " + k + ")", x.state(n, k), o.state(n, k));
            }
            for (int k = -1; k <= o.count(2); k++) {
                same("message(" + n + ", " + k + ")", x.message(n, k), o.message(n, k));
                same("messages(" + n + ", " + k + ")", x.messages(n, k), o.messages(n, k));
            }
        }
        for (int k = -1; k <= o.count(3); k++) {
            same("global(" + k + ")", x.global(k), o.global(k));
        }
    }

    // ---- texts

    private static List<String> words = new ArrayList<>();
    private static List<String> columns;
    private static List<String> ints;
    private static List<String> bools;
    private static List<String> intFolds;
    private static List<String> boolFolds;
    private static List<String> intGlobals;
    private static List<String> boolGlobals;
    private static List<String> intReads;
    private static List<String> boolReads;
    private static boolean inSend;
    private static boolean tame;
    private static int lets;
    private static int letNames;

    private static String text() {
        words = new ArrayList<>();
        tame = random.nextInt(3) > 0;
        letNames = 0;
        tell();
        body("start");
        body("round");
        int changes = random.nextInt(2) == 0 ? 0 : 1 + random.nextInt(3);
        for (int i = 0; i < changes; i++) {
            change();
        }
        return spaced();
    }

    private static void say(String... more) {
        words.addAll(List.of(more));
    }

    private static <T> T pick(List<T> from) {
        return from.get(random.nextInt(from.size()));
    }

    private static void tell() {
        columns = new ArrayList<>();
        ints = new ArrayList<>();
        bools = new ArrayList<>();
        intFolds = new ArrayList<>();
        boolFolds = new ArrayList<>();
        intGlobals = new ArrayList<>();
        boolGlobals = new ArrayList<>();
        int c = random.nextInt(3);
        for (int i = 0; i < c; i++) {
            columns.add("c" + i);
            say("column", "c" + i, ";");
        }
        int n = 1 + random.nextInt(random.nextInt(20) == 0 ? 9 : 5);
        for (int i = 0; i < n; i++) {
            tellState("n" + i);
        }
        int f = random.nextInt(random.nextInt(20) == 0 ? 6 : 5);
        for (int i = 0; i < f; i++) {
            tellFolded("fold", "f" + i, intFolds, boolFolds);
        }
        int g = random.nextInt(random.nextInt(20) == 0 ? 6 : 5);
        for (int i = 0; i < g; i++) {
            tellFolded("global", "g" + i, intGlobals, boolGlobals);
        }
        intReads = new ArrayList<>(ints);
        intReads.addAll(intFolds);
        intReads.addAll(intGlobals);
        boolReads = new ArrayList<>(bools);
        boolReads.addAll(boolFolds);
        boolReads.addAll(boolGlobals);
    }

    private static void tellState(String name) {
        say("node", name, ":");
        if (random.nextInt(3) > 0) {
            ints.add(name);
            say("int", "=");
            if (random.nextInt(3) == 0) {
                say("-");
            }
            say(numeral(), ";");
        } else {
            bools.add(name);
            say("bool", "=", random.nextBoolean() ? "true" : "false", ";");
        }
    }

    private static void tellFolded(String sort, String name, List<String> asInts, List<String> asBools) {
        String way = pick(List.of("sum", "least", "most", "first", "all", "some"));
        (way.equals("all") || way.equals("some") ? asBools : asInts).add(name);
        say(sort, name, ":", way, ";");
    }

    private static String numeral() {
        return switch (random.nextInt(12)) {
            case 0 -> "2147483647";
            case 1 -> "00" + random.nextInt(50);
            case 2 -> "" + random.nextInt(Integer.MAX_VALUE);
            default -> "" + random.nextInt(12);
        };
    }

    private static void body(String which) {
        say(which);
        lets = 0;
        block(1 + random.nextInt(3), 1 + random.nextInt(5));
    }

    private static void block(int deep, int most) {
        say("{");
        List<String> intsBefore = new ArrayList<>(ints);
        List<String> boolsBefore = new ArrayList<>(bools);
        List<String> intReadsBefore = new ArrayList<>(intReads);
        List<String> boolReadsBefore = new ArrayList<>(boolReads);
        int letsBefore = lets;
        int n = random.nextInt(most + 1);
        for (int i = 0; i < n; i++) {
            statement(deep);
        }
        ints = intsBefore;
        bools = boolsBefore;
        intReads = intReadsBefore;
        boolReads = boolReadsBefore;
        lets = letsBefore;
        say("}");
    }

    private static void statement(int deep) {
        int exps = random.nextInt(4);
        switch (random.nextInt(deep > 0 ? 11 : 8)) {
            case 0, 1 -> set(exps);
            case 2 -> let(exps);
            case 3, 4 -> send(exps);
            case 5, 6 -> give(exps);
            case 7 -> {
                if (random.nextInt(3) == 0) {
                    say("halt", ";");
                } else {
                    set(exps);
                }
            }
            case 8, 9 -> {
                say("if");
                bool(exps);
                block(deep - 1, 3);
                if (random.nextBoolean()) {
                    say("else");
                    block(deep - 1, 3);
                }
            }
            default -> {
                say("loop", "" + random.nextInt(random.nextInt(6) == 0 ? 104 : 6));
                block(deep - 1, 3);
            }
        }
    }

    private static void set(int exps) {
        if (!ints.isEmpty() && (bools.isEmpty() || random.nextBoolean())) {
            say(pick(ints), "=");
            integer(exps);
        } else if (!bools.isEmpty()) {
            say(pick(bools), "=");
            bool(exps);
        } else {
            return;
        }
        say(";");
    }

    private static void let(int exps) {
        if (lets == 8 && random.nextInt(4) > 0) {
            return;
        }
        String name = "v" + letNames;
        letNames++;
        lets++;
        say("let", name, "=");
        if (random.nextBoolean()) {
            integer(exps);
            ints.add(name);
            intReads.add(name);
        } else {
            bool(exps);
            bools.add(name);
            boolReads.add(name);
        }
        say(";");
    }

    private static void send(int exps) {
        List<String> all = new ArrayList<>(intFolds);
        all.addAll(boolFolds);
        if (all.isEmpty()) {
            return;
        }
        String fold = pick(all);
        say("send", fold);
        inSend = true;
        if (intFolds.contains(fold)) {
            integer(exps);
        } else {
            bool(exps);
        }
        inSend = false;
        say(random.nextBoolean() ? "along" : "against", ";");
    }

    private static void give(int exps) {
        List<String> all = new ArrayList<>(intGlobals);
        all.addAll(boolGlobals);
        if (all.isEmpty()) {
            return;
        }
        String global = pick(all);
        say("give", global);
        if (intGlobals.contains(global)) {
            integer(exps);
        } else {
            bool(exps);
        }
        say(";");
    }

    /** Operands come in ( ) or, where that reads otherwise or not at all, without them too now and then. */
    private static void operand(boolean asInt, int deep) {
        boolean wrapped = deep > 0 ? random.nextInt(16) > 0 : random.nextInt(3) == 0;
        if (wrapped) {
            say("(");
        }
        if (asInt) {
            integer(deep);
        } else {
            bool(deep);
        }
        if (wrapped) {
            say(")");
        }
    }

    private static void integer(int deep) {
        switch (deep <= 0 ? random.nextInt(4) : random.nextInt(13)) {
            case 0 -> say(numeral());
            case 1 -> say(pick(List.of("id", "turn", "nodes", "degree", "indegree")));
            case 2, 3 -> {
                if (inSend && !columns.isEmpty() && random.nextBoolean()) {
                    say("arc", ".", pick(columns));
                } else {
                    say(intReads.isEmpty() ? "1" : pick(intReads));
                }
            }
            case 4 -> {
                say("-");
                operand(true, deep - 1);
            }
            case 5 -> {
                say("draw", "(");
                if (tame) {
                    say("" + (1 + random.nextInt(30)));
                } else {
                    integer(deep - 1);
                }
                say(")");
            }
            case 6 -> {
                say("if", "(");
                bool(deep - 1);
                say(",");
                integer(deep - 1);
                say(",");
                integer(deep - 1);
                say(")");
            }
            case 7, 8, 9 -> {
                operand(true, deep - 1);
                say(random.nextBoolean() ? "+" : "-");
                operand(true, deep - 1);
            }
            case 10 -> {
                operand(true, deep - 1);
                say("*");
                operand(true, deep - 1);
            }
            default -> {
                operand(true, deep - 1);
                say(random.nextBoolean() ? "/" : "%");
                if (tame) {
                    say("" + (1 + random.nextInt(9)));
                } else {
                    operand(true, deep - 1);
                }
            }
        }
    }

    private static void bool(int deep) {
        switch (deep <= 0 ? random.nextInt(3) : random.nextInt(11)) {
            case 0 -> say(random.nextBoolean() ? "true" : "false");
            case 1 -> say(boolReads.isEmpty() ? "true" : pick(boolReads));
            case 2 -> {
                List<String> all = new ArrayList<>(intFolds);
                all.addAll(boolFolds);
                if (all.isEmpty()) {
                    say("false");
                } else {
                    say("has", pick(all));
                }
            }
            case 3 -> {
                say("!");
                operand(false, deep - 1);
            }
            case 4 -> {
                say("if", "(");
                bool(deep - 1);
                say(",");
                bool(deep - 1);
                say(",");
                bool(deep - 1);
                say(")");
            }
            case 5, 6 -> {
                operand(true, deep - 1);
                say(pick(List.of("==", "!=", "<", "<=", ">", ">=")));
                operand(true, deep - 1);
            }
            case 7 -> {
                operand(false, deep - 1);
                say(random.nextBoolean() ? "==" : "!=");
                operand(false, deep - 1);
            }
            default -> {
                operand(false, deep - 1);
                say(random.nextBoolean() ? "&&" : "||");
                operand(false, deep - 1);
            }
        }
    }

    private static void change() {
        int at = random.nextInt(words.size());
        String other = random.nextInt(2) == 0 ? pick(words)
            : pick(List.of("zz", "v0", "n0", "n1", "f0", "g0", "c0", "arc", "has", "(", ")", ";", "{", "}", "@", "&",
                "|", "abcdefghijkl", "abcdefghijklm", "2147483648", "99999999999999999999", "101", "-", "!", "+",
                "true", "1", "column", "if", "let", "send", "halt", "\t"));
        switch (random.nextInt(20)) {
            case 0 -> words.remove(at);
            case 1 -> words.add(at, other);
            case 2, 3, 4 -> nest();
            default -> replaceAlike(at, other);
        }
    }

    /** A name becomes another name more often than not: that is what faults 3 to 5 come from. */
    private static void replaceAlike(int at, String other) {
        List<String> names = new ArrayList<>(List.of("zz"));
        List<Integer> places = new ArrayList<>();
        for (int i = 0; i < words.size(); i++) {
            if (words.get(i).matches("[cnfgv][0-9]+")) {
                names.add(words.get(i));
                places.add(i);
            }
        }
        List<Integer> operands = operandPlaces();
        if (places.isEmpty() || random.nextInt(10) == 0) {
            words.set(at, other);
        } else if (!operands.isEmpty() && random.nextInt(3) > 0) {
            names.addAll(List.of("true", "7", "id"));
            words.set(pick(operands), pick(names));
        } else {
            words.set(pick(places), pick(names));
        }
    }

    private static List<Integer> operandPlaces() {
        List<Integer> places = new ArrayList<>();
        for (int i = words.indexOf("start") + 1; i < words.size(); i++) {
            boolean behindSign = i > 0 && List.of("(", ",", "=", "==", "!=", "<", "<=", ">", ">=", "+", "*", "/", "%", "&&", "||")
                .contains(words.get(i - 1));
            if (behindSign && words.get(i).matches("[nfgv][0-9]+|[0-9]+|true|false|id|turn|nodes|degree|indegree")) {
                places.add(i);
            }
        }
        return places;
    }

    private static void nest() {
        List<Integer> operands = operandPlaces();
        if (operands.isEmpty()) {
            return;
        }
        int at = pick(operands);
        int deep = 8 + random.nextInt(5);
        String sign = pick(List.of("-", "!", "(", "( -"));
        for (int i = 0; i < deep; i++) {
            if (sign.startsWith("(")) {
                words.add(at + 1, ")");
            }
            words.addAll(at, List.of(sign.split(" ")));
            at += sign.split(" ").length;
        }
    }

    private static String spaced() {
        StringBuilder s = new StringBuilder();
        boolean wide = random.nextInt(3) == 0;
        for (String word : words) {
            if (s.length() > 0) {
                char last = s.charAt(s.length() - 1);
                boolean apart = Character.isLetterOrDigit(last) && Character.isLetterOrDigit(word.charAt(0))
                    || "=<>!&|".indexOf(last) >= 0 && "=&|".indexOf(word.charAt(0)) >= 0;
                if (apart || wide || random.nextInt(5) == 0) {
                    s.append(pick(List.of(" ", "\n", "  ", " # no: start { \n", "\n#\n")));
                }
            }
            s.append(word);
        }
        if (random.nextInt(4) == 0) {
            s.append(pick(List.of(" ", "\n", "# end", "#\n ")));
        }
        return s.length() > 3990 ? s.substring(0, 3990) : s.toString();
    }
}
