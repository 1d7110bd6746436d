/** The edges of promises 7 to 11: name, count, nodes, arc, weight. */
public final class EdgeGraphTest {
    private static final int[] FAR = {Integer.MIN_VALUE, -1000000, 1000000, Integer.MAX_VALUE};

    private EdgeGraphTest() { }

    public static void main(String[] args) {
        nameAnswers();
        nameOfJustTheBytes();
        nameEmptiesTheTape();
        nameNone();
        nameOfLets();
        nameRefused();
        nameLeavesTheRest();
        countAnswers();
        countOfAll();
        countRefused();
        nodesTaken();
        nodesRefused();
        nodesAnswerBefore();
        arcsGo();
        nodesEndTheRun();
        nodesLeaveTheRest();
        arcNumbers();
        arcEnds();
        arcRefused();
        arcsFull();
        arcEndsTheRun();
        refusedLeaveTheRun();
        weightAnswers();
        weightAtFirst();
        weightWhateverTheProgramHas();
        weightRefused();
        weightLeavesTheRest();
        Bench.finish();
    }

    // ---- promise 7

    private static void nameAnswers() {
        Bench.sentence("100 times its sort (0 .. 3) and its number");
        String text = "column c0;column c1;column c2;column c3;node n0:int=1;node n1:int=1;node n2:int=1;node n3:int=1;"
            + "node n4:bool=true;node n5:int=1;node n6:int=1;node n7:int=1;fold f0:sum;fold f1:all;fold f2:sum;fold f3:sum;"
            + "global g0:sum;global g1:all;global g2:sum;global g3:sum;start{}round{}";
        String sorts = "cnfg";
        for (int sort = 0; sort < 4; sort++) {
            VertexLanguage x = Edge.reading(text);
            for (int k = 0; k < (sort == 1 ? 8 : 4); k++) {
                String name = sorts.charAt(sort) + "" + k;
                Bench.due("name() of " + name, Bench.named(x, name), 100 * sort + k);
            }
            Bench.due("name() of one more", Bench.named(x, sorts.charAt(sort) + (sort == 1 ? "8" : "4")), -2);
        }
        // As they are told, each sort for itself.
        VertexLanguage x = Edge.reading("global b:sum;fold a:sum;node d:int=1;global a2:sum;column e;node c:int=1;start{}round{}");
        String[] names = {"b", "a2", "a", "d", "c", "e"};
        int[] due = {300, 301, 200, 100, 101, 0};
        for (int i = 0; i < names.length; i++) {
            Bench.due("name() of " + names[i], Bench.named(x, names[i]), due[i]);
        }
    }

    private static void nameOfJustTheBytes() {
        Bench.sentence("whose NAME has just the bytes of the tape");
        VertexLanguage x = Edge.reading("column abcdefghijkl;node ab:int=1;fold a:sum;global A:sum;start{}round{}");
        String[] names = {"abcdefghijkl", "ab", "a", "A"};
        int[] due = {0, 100, 200, 300};
        for (int i = 0; i < names.length; i++) {
            Bench.due("name() of " + names[i], Bench.named(x, names[i]), due[i]);
        }
        for (String other : new String[] {"abcdefghijk", "abcdefghijklm", "bcdefghijkl", "abc", "b", "Ab", "AB", "aB", " a", "a ",
            "a\n", "\na", "#\na", "a;", "a\0", "\0", " ", "ab ab", "abcdefghijkl" + " ".repeat(3988), "a" + (char) 225}) {
            Bench.due("name() of [" + other + "]", Bench.named(x, other), -2);
        }
        x = Edge.reading("column a;start{}round{}");
        for (int c = 0; c < 256; c++) {
            VertexLanguage y = Edge.reading("column a;start{}round{}");
            Bench.due("name() of byte " + c, Bench.named(y, "" + (char) c), c == 'a' ? 0 : -2);
        }
    }

    private static void nameEmptiesTheTape() {
        Bench.sentence("the tape, which is empty then");
        for (String name : new String[] {"a", "b", "", "a".repeat(20), "a".repeat(4000)}) {
            VertexLanguage x = Edge.reading("column a;start{}round{}");
            Bench.due("name() of " + name, Bench.named(x, name), name.equals("a") ? 0 : -2);
            Bench.due("end(0) behind name()", x.end(0), -1);
            Bench.due("feed behind name()", x.feed(0, 0, 0, 0, 0), 20);
        }
    }

    private static void nameNone() {
        Bench.sentence("NONE: none such");
        VertexLanguage x = Edge.reading("column a;start{}round{}");
        Bench.due("name() of b", Bench.named(x, "b"), -2);
        Bench.due("name() of nothing", x.name(), -2);
        Bench.due("name() of column", Bench.named(x, "column"), -2);
        x = Edge.reading("start{}round{}");
        Bench.due("nothing is told: name() of a", Bench.named(x, "a"), -2);
        Bench.due("nothing is told: name() of nothing", x.name(), -2);
        // What a program before it told is none such.
        x = Edge.reading("column a;node b:int=1;start{}round{}");
        Bench.read(x, "node b:int=1;start{}round{}");
        Bench.due("name() of an earlier column", Bench.named(x, "a"), -2);
        Bench.due("name() of what is told again", Bench.named(x, "b"), 100);
    }

    private static void nameOfLets() {
        Bench.sentence("The column, state, fold, global (a let is none)");
        VertexLanguage x = Edge.reading("column a;start{let v=1;}round{let u=1;}");
        Bench.due("name() of v", Bench.named(x, "v"), -2);
        Bench.due("name() of u", Bench.named(x, "u"), -2);
        Bench.due("name() of a", Bench.named(x, "a"), 0);
    }

    private static void nameRefused() {
        Bench.sentence("BAD: no program (the tape stays)");
        Twins.untouched("name()", Twins.withoutProgram(), VertexLanguage::name, -1);
        VertexLanguage x = new VertexLanguage();
        Bench.feed(x, "column a;start{}round{halt;}");
        Bench.due("name()", x.name(), -1);
        Bench.due("program() of the tape that stayed", x.program(), 1);
    }

    private static void nameLeavesTheRest() {
        Bench.sentence("the tape, which is empty then (and nothing else changes)");
        Twins.untouched("name()", x -> {
            Twins.running(x);
            x.end(0);
            x.name();
        }, VertexLanguage::name, -2);
        VertexLanguage x = new VertexLanguage();
        Twins.early(x);
        Bench.due("name() of b", x.name(), 101);
        Bench.due("the RUN stays", x.told(0), 1);
        Bench.due("and can be undone", x.undo(), 0);
    }

    // ---- promise 8

    private static void countAnswers() {
        Bench.sentence("0 columns, 1 states, 2 folds, 3 globals, 4 statements, 5 nodes, 6 arcs");
        VertexLanguage x = Edge.reading("column a;node b:int=1;node c:int=1;fold d:sum;fold e:sum;fold f:sum;global g:sum;"
            + "global h:sum;global i:sum;global j:sum;start{let k=1;halt;}round{if true{halt;}loop 2{}halt;}");
        x.nodes(8);
        for (int i = 0; i < 7; i++) {
            x.arc(0, i);
        }
        int[] due = {1, 2, 3, 4, 6, 8, 7};
        for (int what = 0; what < 7; what++) {
            Bench.due("count(" + what + ")", x.count(what), due[what]);
        }
    }

    private static void countOfAll() {
        Bench.sentence("0 columns, 1 states .. (as many as there can be, or none)");
        StringBuilder s = new StringBuilder();
        for (int k = 0; k < 8; k++) {
            s.append("node n").append(k).append(":int=1;");
        }
        for (int k = 0; k < 4; k++) {
            s.append("column c").append(k).append(";fold f").append(k).append(":sum;global g").append(k).append(":sum;");
        }
        VertexLanguage x = Edge.reading(s + "start{" + "halt;".repeat(120) + "}round{}");
        x.nodes(40);
        for (int i = 0; i < 120; i++) {
            x.arc(i % 40, 0);
        }
        int[] due = {4, 8, 4, 4, 120, 40, 120};
        for (int what = 0; what < 7; what++) {
            Bench.due("count(" + what + ")", x.count(what), due[what]);
        }
        Bench.read(x, "start{}round{}");
        x.nodes(1);
        int[] least = {0, 0, 0, 0, 0, 1, 0};
        for (int what = 0; what < 7; what++) {
            Bench.due("count(" + what + ")", x.count(what), least[what]);
        }
    }

    private static void countRefused() {
        Bench.sentence("count .. BAD: another number");
        for (int what : new int[] {-1, 7, 8, -2, 256, FAR[0], FAR[1], FAR[2], FAR[3]}) {
            Twins.untouched("count(" + what + ")", Twins.everywhere(), x -> x.count(what), -1);
        }
        int[] due = {1, 3, 3, 3, 15, 4, 7};
        for (int what = 0; what < 7; what++) {
            int w = what;
            Twins.untouched("count(" + what + ")", Twins.withRun(), x -> x.count(w), due[what]);
        }
    }

    // ---- promise 9

    private static void nodesTaken() {
        Bench.sentence("How many nodes (1 .. 40)");
        for (int n = 1; n <= 40; n++) {
            VertexLanguage x = new VertexLanguage();
            Bench.due("nodes(" + n + ")", x.nodes(n), 1);
            Bench.due("count(5)", x.count(5), n);
            Bench.due("arc to the last", x.arc(0, n - 1), 0);
            Bench.due("arc to one more", x.arc(0, n), -1);
        }
        // All 40 are there in a RUN.
        VertexLanguage x = Edge.begun("node n:int=0;start{n=id*100+nodes;}round{}", 40);
        x.run(1);
        for (int node = 0; node < 40; node++) {
            Bench.due("state(" + node + ", 0)", x.state(node, 0), node * 100 + 40);
            Bench.due("halted(" + node + ")", x.halted(node), 0);
        }
        Bench.due("halted(40)", x.halted(40), -1);
    }

    private static void nodesRefused() {
        Bench.sentence("nodes .. BAD: another number");
        for (int n : new int[] {0, 41, -1, 42, 80, 256, 257, FAR[0], FAR[1], FAR[2], FAR[3]}) {
            Twins.untouched("nodes(" + n + ")", Twins.everywhere(), x -> x.nodes(n), -1);
        }
    }

    private static void nodesAnswerBefore() {
        Bench.sentence("how many there were");
        VertexLanguage x = new VertexLanguage();
        Bench.due("nodes(40)", x.nodes(40), 1);
        Bench.due("nodes(40)", x.nodes(40), 40);
        Bench.due("nodes(1)", x.nodes(1), 40);
        x.nodes(0);
        x.nodes(41);
        Bench.due("nodes(7)", x.nodes(7), 1);
        Bench.due("nodes(2)", x.nodes(2), 7);
    }

    private static void arcsGo() {
        Bench.sentence("all arcs go");
        for (int n : new int[] {1, 2, 3, 40}) {
            VertexLanguage x = Edge.begun("column w;node d:int=0;node e:int=0;fold f:sum;start{d=degree;e=indegree;"
                + "send f arc.w along;}round{}", 3, 0, 0, 0, 1, 1, 0, 2, 2);
            x.weight(0, 0, 7);
            x.weight(0, 3, 7);
            x.nodes(n);
            Bench.due("count(6)", x.count(6), 0);
            Bench.due("weight(0, 0, 5)", x.weight(0, 0, 5), 0);
            x.begin(1);
            x.run(1);
            Bench.due("degree of 0", x.state(0, 0), 0);
            Bench.due("indegree of 0", x.state(0, 1), 0);
            Bench.due("messages under way", x.told(2), 0);
            Bench.due("the next arc", x.arc(0, 0), 0);
            Bench.due("weight(0, 0, 5)", x.weight(0, 0, 5), 0);
            Bench.due("weight(0, 3, 5)", x.weight(0, 3, 5), 0);
        }
    }

    private static void nodesEndTheRun() {
        Bench.sentence("the RUN is gone with nodes()");
        for (int n : new int[] {1, 4, 40}) {
            VertexLanguage x = new VertexLanguage();
            Twins.early(x);
            x.nodes(n);
            gone(x);
            Bench.due("begin(1)", x.begin(1), 1);
            Bench.due("told(0)", x.told(0), 0);
        }
    }

    private static void gone(VertexLanguage x) {
        Bench.due("run(1)", x.run(1), -1);
        Bench.due("undo()", x.undo(), -1);
        for (int what = 0; what < 10; what++) {
            Bench.due("told(" + what + ")", x.told(what), -1);
        }
        Bench.due("state(0, 0)", x.state(0, 0), 0);
        Bench.due("message(0, 0)", x.message(0, 0), 0);
        Bench.due("message(0, 2)", x.message(0, 2), 0);
        Bench.due("messages(0, 0)", x.messages(0, 0), -1);
        Bench.due("global(0)", x.global(0), 0);
        Bench.due("global(1)", x.global(1), 0);
        Bench.due("halted(0)", x.halted(0), -1);
    }

    private static void nodesLeaveTheRest() {
        Bench.sentence("How many nodes .. (the program and the tape stay)");
        VertexLanguage x = new VertexLanguage();
        Twins.read(x);
        int printed = x.print(-1);
        x.nodes(9);
        Bench.due("print(-1)", x.print(-1), printed);
        Bench.due("count(1)", x.count(1), 3);
        Bench.due("fault(0)", x.fault(0), -2);
        Bench.due("name() of b", x.name(), 101);
    }

    // ---- promise 10

    private static void arcNumbers() {
        Bench.sentence("An arc: its number (arcs 0 .. 119, as they are told)");
        VertexLanguage x = new VertexLanguage();
        x.nodes(2);
        for (int arc = 0; arc < 120; arc++) {
            Bench.due("arc " + arc, x.arc(arc % 2, arc / 2 % 2), arc);
            Bench.due("count(6)", x.count(6), arc + 1);
        }
    }

    private static void arcEnds() {
        Bench.sentence("each from a node to a node");
        // From and to the same one, the same two again, back.
        VertexLanguage x = Edge.begun("node d:int=0;start{d=degree*10+indegree;}round{}", 3, 0, 0, 0, 1, 0, 1, 1, 0, 0, 2);
        x.run(1);
        Bench.due("degrees of 0", x.state(0, 0), 42);
        Bench.due("degrees of 1", x.state(1, 0), 12);
        Bench.due("degrees of 2", x.state(2, 0), 1);
    }

    private static void arcRefused() {
        Bench.sentence("arc .. BAD: no such node");
        for (int node : new int[] {-1, 4, 5, 39, 40, 41, 256, FAR[0], FAR[1], FAR[2], FAR[3]}) {
            Twins.untouched("arc(" + node + ", 0)", Twins::running, x -> x.arc(node, 0), -1);
            Twins.untouched("arc(0, " + node + ")", Twins::running, x -> x.arc(0, node), -1);
            Twins.untouched("arc(3, " + node + ")", Twins::early, x -> x.arc(3, node), -1);
            Twins.untouched("arc(" + node + ", " + node + ")", Twins::read, x -> x.arc(node, node), -1);
        }
        Twins.untouched("arc(0, 1)", Twins::fresh, x -> x.arc(0, 1), -1);
        Twins.untouched("arc(1, 0)", Twins::fed, x -> x.arc(1, 0), -1);
        VertexLanguage x = new VertexLanguage();
        x.nodes(40);
        Bench.due("arc(39, 39)", x.arc(39, 39), 0);
        Bench.due("arc(40, 39)", x.arc(40, 39), -1);
        Bench.due("arc(39, 40)", x.arc(39, 40), -1);
        Bench.due("arc(0, 39)", x.arc(0, 39), 1);
        x.nodes(2);
        Bench.due("a node that there was: arc(2, 0)", x.arc(2, 0), -1);
        Bench.due("a node that there was: arc(0, 39)", x.arc(0, 39), -1);
    }

    private static void fullOfArcs(VertexLanguage x) {
        x.nodes(3);
        for (int arc = 0; arc < 120; arc++) {
            x.arc(arc % 3, 1);
        }
        Bench.read(x, "node d:int=0;start{d=degree*1000+indegree;}round{}");
        x.begin(1);
        x.run(1);
    }

    private static void arcsFull() {
        Bench.sentence("arc .. FULL: 120");
        Twins.untouched("the arc behind 120", EdgeGraphTest::fullOfArcs, x -> x.arc(0, 1), -3);
        VertexLanguage x = new VertexLanguage();
        fullOfArcs(x);
        Bench.due("degree of 0", x.state(0, 0), 40000);
        Bench.due("indegree of 1", x.state(1, 0), 40120);
        Bench.due("weight(119, 3, 8)", x.weight(119, 3, 8), 0);
        Bench.due("weight(119, 3, 9)", x.weight(119, 3, 9), 8);
        Bench.due("arc(0, 0)", x.arc(0, 0), -3);
        Bench.due("arc(2, 2)", x.arc(2, 2), -3);
        Bench.due("count(6)", x.count(6), 120);
        x.nodes(3);
        Bench.due("arc(0, 0) behind nodes()", x.arc(0, 0), 0);
    }

    private static void arcEndsTheRun() {
        Bench.sentence("the RUN is gone with .. arc()");
        VertexLanguage x = new VertexLanguage();
        Twins.early(x);
        Bench.due("arc(0, 0)", x.arc(0, 0), 7);
        gone(x);
        Bench.due("begin(1)", x.begin(1), 1);
        Bench.due("told(0)", x.told(0), 0);
        Bench.due("the program and the tape stay: name()", x.name(), 101);
        Bench.due("so do weights", x.weight(6, 0, 0), 61);
    }

    private static void refusedLeaveTheRun() {
        Bench.sentence("the RUN is gone with nodes() and arc() (one that is refused leaves it)");
        Twins.untouched("nodes(0)", Twins.withRun(), x -> x.nodes(0), -1);
        Twins.untouched("arc(0, 4)", Twins.withRun(), x -> x.arc(0, 4), -1);
        Twins.untouched("arc(0, 0)", EdgeGraphTest::fullOfArcs, x -> x.arc(0, 0), -3);
    }

    // ---- promise 11

    private static void weightAnswers() {
        Bench.sentence("An arc's number in column 0 .. 3 ..: what it was");
        VertexLanguage x = new VertexLanguage();
        x.nodes(2);
        for (int arc = 0; arc < 20; arc++) {
            x.arc(0, 1);
        }
        for (int arc = 0; arc < 20; arc++) {
            for (int column = 0; column < 4; column++) {
                Bench.due("weight", x.weight(arc, column, 100 * arc + column + 1), 0);
            }
        }
        for (int arc = 0; arc < 20; arc++) {
            for (int column = 0; column < 4; column++) {
                Bench.due("weight", x.weight(arc, column, Integer.MIN_VALUE), 100 * arc + column + 1);
            }
        }
        Bench.due("weight", x.weight(0, 0, Integer.MAX_VALUE), Integer.MIN_VALUE);
        Bench.due("weight", x.weight(0, 0, -1), Integer.MAX_VALUE);
        Bench.due("weight", x.weight(0, 0, 0), -1);
        Bench.due("weight", x.weight(0, 0, 0), 0);
    }

    private static void weightAtFirst() {
        Bench.sentence("each has a number in each column (0 at first)");
        VertexLanguage x = new VertexLanguage();
        for (int round = 0; round < 2; round++) {
            x.nodes(2);
            for (int arc = 0; arc < 50; arc++) {
                x.arc(1, 0);
                Bench.due("a new arc's number", x.weight(arc, arc % 4, 9), 0);
            }
        }
        // Read in a RUN too.
        x = Edge.begun("column a;column b;column c;column d;fold f:sum;start{send f 1+arc.a+arc.b+arc.c+arc.d along;}round{}",
            2, 0, 1);
        x.run(1);
        Bench.due("message(1, 0)", x.message(1, 0), 1);
    }

    private static void weightWhateverTheProgramHas() {
        Bench.sentence("column 0 .. 3 (whatever the program has)");
        for (String text : new String[] {"", "start{}round{}", "column a;start{}round{}",
            "column a;column b;column c;column d;start{}round{}"}) {
            VertexLanguage x = Edge.reading(text);
            x.arc(0, 0);
            for (int column = 0; column < 4; column++) {
                Bench.due("weight(0, " + column + ", 5)", x.weight(0, column, 5), 0);
                Bench.due("weight(0, " + column + ", 6)", x.weight(0, column, 6), 5);
            }
            Bench.due("weight(0, 4, 5)", x.weight(0, 4, 5), 0);
            Bench.due("weight(0, 4, 6)", x.weight(0, 4, 6), 0);
        }
        // A number that was told ahead of the program is read by it.
        VertexLanguage x = new VertexLanguage();
        x.arc(0, 0);
        x.weight(0, 1, 77);
        Bench.read(x, "column a;column b;fold f:sum;start{send f arc.b along;}round{}");
        x.begin(1);
        x.run(1);
        Bench.due("message(0, 0)", x.message(0, 0), 77);
    }

    private static void weightRefused() {
        Bench.sentence("weight .. BAD (0 here): none such");
        for (int wrong : new int[] {-1, 7, 8, 119, 120, 121, FAR[0], FAR[1], FAR[2], FAR[3]}) {
            Twins.untouched("weight(" + wrong + ", 0, 5)", Twins::running, x -> x.weight(wrong, 0, 5), 0);
            Twins.untouched("weight(" + wrong + ", 3, 5)", Twins::early, x -> x.weight(wrong, 3, 5), 0);
        }
        for (int wrong : new int[] {-1, 4, 5, 7, 8, 12, FAR[0], FAR[1], FAR[2], FAR[3]}) {
            Twins.untouched("weight(0, " + wrong + ", 5)", Twins::running, x -> x.weight(0, wrong, 5), 0);
            Twins.untouched("weight(1, " + wrong + ", 5)", Twins::early, x -> x.weight(1, wrong, 5), 0);
            Twins.untouched("weight(6, " + wrong + ", 5)", Twins::read, x -> x.weight(6, wrong, 5), 0);
        }
        Twins.untouched("weight(0, 0, 5)", Twins::fresh, x -> x.weight(0, 0, 5), 0);
        // An arc that was refused, or has gone, is none such.
        VertexLanguage x = new VertexLanguage();
        x.arc(0, 0);
        x.arc(0, 1);
        Bench.due("weight(1, 0, 5)", x.weight(1, 0, 5), 0);
        Bench.due("weight(1, 0, 6)", x.weight(1, 0, 6), 0);
        x.arc(0, 0);
        Bench.due("weight(1, 0, 7) of a new arc", x.weight(1, 0, 7), 0);
    }

    private static void weightLeavesTheRest() {
        Bench.sentence("An arc's number (and nothing else changes)");
        Twins.untouched("weight(6, 0, 61)", Twins.withRun(), x -> x.weight(6, 0, 61), 61);
        // The RUN stays; what is under way stays; the next send reads the new number.
        VertexLanguage x = Edge.begun("column w;fold f:sum;start{send f arc.w along;}round{send f arc.w along;}", 2, 0, 1);
        x.weight(0, 0, 9);
        x.run(1);
        x.weight(0, 0, 4);
        Bench.due("message(1, 0)", x.message(1, 0), 9);
        Bench.due("told(0)", x.told(0), 1);
        x.run(1);
        Bench.due("message(1, 0)", x.message(1, 0), 4);
        Bench.due("undo()", x.undo(), 1);
        Bench.due("message(1, 0)", x.message(1, 0), 9);
        Bench.due("undo() leaves the numbers", x.weight(0, 0, 5), 4);
    }
}
