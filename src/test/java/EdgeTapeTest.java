/** The edges of promises 1 to 5: a new object, feed, end, program, fault. */
public final class EdgeTapeTest {
    private static final int BLANKS = 0x20202020;
    private static final int[] FAR = {Integer.MIN_VALUE, -1000000, 1000000, Integer.MAX_VALUE};

    private EdgeTapeTest() { }

    public static void main(String[] args) {
        constants();
        emptyTape();
        noProgram();
        oneNode();
        noArcs();
        objectsForThemselves();
        highestFirst();
        behindTheTape();
        fullTape();
        fullByAByte();
        refusedFeed();
        feedLeavesTheRest();
        endTakes();
        endRefusesNumbers();
        endRefusesShortTapes();
        endOfTheLastTwenty();
        statementsAnswered();
        faultAnswered();
        tapeEmptyBehindProgram();
        noProgramBehindAFault();
        runGoneWithProgram();
        programLeavesTheGraph();
        emptyText();
        faultPlace();
        faultLine();
        faultNone();
        faultOfTheLatest();
        faultRefused();
        Bench.finish();
    }

    private static int feedBlanks(VertexLanguage x) {
        return x.feed(BLANKS, BLANKS, BLANKS, BLANKS, BLANKS);
    }

    /** An object whose tape has so many bytes, a multiple of 20 or less than the next by some. */
    private static VertexLanguage withTape(int bytes) {
        VertexLanguage x = new VertexLanguage();
        Bench.feed(x, " ".repeat(bytes));
        return x;
    }

    // ---- promise 1

    private static void constants() {
        Bench.sentence("BAD = -1, NONE = -2, FULL = -3, FAILED = -4");
        Bench.due("BAD", VertexLanguage.BAD, -1);
        Bench.due("NONE", VertexLanguage.NONE, -2);
        Bench.due("FULL", VertexLanguage.FULL, -3);
        Bench.due("FAILED", VertexLanguage.FAILED, -4);
    }

    private static void emptyTape() {
        Bench.sentence("An empty tape");
        Bench.due("first feed", feedBlanks(new VertexLanguage()), 20);
        Bench.due("end(0) of nothing", new VertexLanguage().end(0), -1);
        Bench.due("end(20) of nothing", new VertexLanguage().end(20), -1);
    }

    private static void noProgram() {
        Bench.sentence("no program");
        VertexLanguage x = new VertexLanguage();
        Bench.due("print(-1)", x.print(-1), -1);
        Bench.due("print(0)", x.print(0), -1);
        Bench.due("name()", x.name(), -1);
        Bench.due("begin(0)", x.begin(0), -1);
        Bench.due("run(1)", x.run(1), -1);
        Bench.due("undo()", x.undo(), -1);
        Bench.due("told(0)", x.told(0), -1);
        Bench.due("state(0, 0)", x.state(0, 0), 0);
        Bench.due("message(0, 0)", x.message(0, 0), 0);
        Bench.due("messages(0, 0)", x.messages(0, 0), -1);
        Bench.due("global(0)", x.global(0), 0);
        Bench.due("halted(0)", x.halted(0), -1);
        for (int what = 0; what < 5; what++) {
            Bench.due("count(" + what + ")", x.count(what), 0);
        }
    }

    private static void oneNode() {
        Bench.sentence("one node");
        Bench.due("count(5)", new VertexLanguage().count(5), 1);
        Bench.due("nodes(7)", new VertexLanguage().nodes(7), 1);
        Bench.due("arc(0, 0)", new VertexLanguage().arc(0, 0), 0);
        Bench.due("arc(0, 1)", new VertexLanguage().arc(0, 1), -1);
        Bench.due("arc(1, 0)", new VertexLanguage().arc(1, 0), -1);
    }

    private static void noArcs() {
        Bench.sentence("no arcs");
        Bench.due("count(6)", new VertexLanguage().count(6), 0);
        VertexLanguage x = new VertexLanguage();
        Bench.due("weight(0, 0, 3)", x.weight(0, 0, 3), 0);
        Bench.due("weight(0, 0, 4)", x.weight(0, 0, 4), 0);
    }

    private static void objectsForThemselves() {
        Bench.sentence("VertexLanguage(): An empty tape, no program, one node, no arcs (whatever other objects have)");
        VertexLanguage x = Edge.begun(Twins.TEXT, 4, 0, 1, 1, 2);
        x.run(3);
        Bench.feed(x, "start");
        VertexLanguage y = new VertexLanguage();
        Bench.due("count(5)", y.count(5), 1);
        Bench.due("count(6)", y.count(6), 0);
        Bench.due("print(-1)", y.print(-1), -1);
        Bench.due("feed", feedBlanks(y), 20);
        Bench.due("program()", y.program(), -11);
        Bench.due("the other one's TURN", x.told(0), 3);
    }

    // ---- promise 2

    private static void highestFirst() {
        Bench.sentence("Twenty bytes .. the highest of each number first");
        VertexLanguage x = new VertexLanguage();
        // start{}round{halt;}# and what is above 127
        Bench.due("feed", x.feed(0x73746172, 0x747B7D72, 0x6F756E64, 0x7B68616C, 0x743B7D23), 20);
        Bench.due("feed", x.feed(0xFFFEFDFC, 0x80818283, -1, 0, Integer.MIN_VALUE), 40);
        Bench.due("program()", x.program(), 1);
        Bench.due("feed", x.feed(0x80207374, 0x6172747B, 0x7D726F75, 0x6E647B7D, BLANKS), 20);
        Bench.due("a byte above 127: program()", x.program(), -11);
        Bench.due("fault(0)", x.fault(0), 0);
        Bench.due("feed", x.feed(0x20A0FF00, 0x6172747B, 0x7D726F75, 0x6E647B7D, BLANKS), 20);
        Bench.due("program()", x.program(), -11);
        Bench.due("fault(0)", x.fault(0), 1);
        Bench.due("feed", x.feed(0x20202020, 0x20202073, 0, 0, 0), 20);
        Bench.due("program()", x.program(), -11);
        Bench.due("fault(0)", x.fault(0), 7);
        Bench.due("feed", x.feed(BLANKS, BLANKS, BLANKS, BLANKS, 0x20202000), 20);
        Bench.due("program()", x.program(), -11);
        Bench.due("the last byte: fault(0)", x.fault(0), 19);
    }

    private static void behindTheTape() {
        Bench.sentence("Twenty bytes come behind the tape .. how many it has");
        VertexLanguage x = new VertexLanguage();
        for (int i = 1; i <= 5; i++) {
            Bench.due("feed " + i, feedBlanks(x), 20 * i);
        }
        Bench.due("feed", x.feed(0x40404040, 0, 0, 0, 0), 120);
        Bench.due("program()", x.program(), -11);
        Bench.due("fault(0)", x.fault(0), 100);
        Bench.feed(x, "start{}rou");
        Bench.due("feed behind ten", x.feed(0x6E647B7D, BLANKS, BLANKS, BLANKS, BLANKS), 30);
        Bench.due("program()", x.program(), 0);
    }

    private static void fullTape() {
        Bench.sentence("FULL: above 4,000");
        VertexLanguage x = new VertexLanguage();
        for (int i = 1; i <= 200; i++) {
            Bench.due("feed " + i, feedBlanks(x), 20 * i);
        }
        Bench.due("feed 201", feedBlanks(x), -3);
        Bench.due("feed 202", feedBlanks(x), -3);
        Bench.due("end(20)", x.end(20), 4000);
        Bench.due("program()", x.program(), -11);
        Bench.due("fault(0)", x.fault(0), 4000);
        // All 4,000 bytes are there.
        Edge.good(0, " ".repeat(3986) + "start{}round{}");
        Edge.bad(1, " ".repeat(3985) + "start{}round{}^}");
    }

    private static void fullByAByte() {
        Bench.sentence("FULL: above 4,000 (by a part of the twenty)");
        for (int bytes = 3979; bytes <= 4000; bytes++) {
            VertexLanguage x = withTape(bytes);
            Bench.due("feed behind " + bytes, feedBlanks(x), bytes <= 3980 ? bytes + 20 : -3);
            Bench.due("end(20) behind " + bytes, x.end(20), bytes <= 3980 ? bytes + 20 : bytes);
        }
    }

    private static void refusedFeed() {
        Bench.sentence("FULL: above 4,000 (nothing comes behind the tape then)");
        String text = "start{halt;}round{}";
        for (int bytes : new int[] {3981, 3990, 4000}) {
            Twins.untouched("feed behind " + bytes, x -> Bench.feed(x, text + " ".repeat(bytes - text.length())),
                x -> x.feed(0x40404040, 0x40404040, 0x40404040, 0x40404040, 0x40404040), -3);
        }
        VertexLanguage x = Edge.begun("node n:int=5;start{n=6;}round{}", 2);
        x.run(1);
        for (int i = 0; i < 200; i++) {
            feedBlanks(x);
        }
        Bench.due("feed", x.feed(0, 0, 0, 0, 0), -3);
        Bench.due("the RUN stays", x.told(0), 1);
        Bench.due("its state too", x.state(1, 0), 6);
        Bench.due("program()", x.program(), -11);
        Bench.due("no byte of it is there: fault(0)", x.fault(0), 4000);
    }

    private static void feedLeavesTheRest() {
        Bench.sentence("Twenty bytes come behind the tape (and nothing else)");
        for (var make : Twins.everywhere()) {
            VertexLanguage x = new VertexLanguage();
            make.accept(x);
            int before = feedBlanks(x) - 20;
            Twins.untouched("feed() and end(0) behind " + before, make, y -> {
                y.feed(0x40404040, 0, -1, 1, 2);
                return y.end(0);
            }, before);
        }
    }

    // ---- promise 3

    private static void endTakes() {
        Bench.sentence("Of the last twenty bytes of the tape the first n (0 .. 20) stay: how many it has");
        for (int n = 0; n <= 20; n++) {
            VertexLanguage x = withTape(20);
            Bench.due("end(" + n + ") of 20", x.end(n), n);
            x = withTape(40);
            Bench.due("end(" + n + ") of 40", x.end(n), 20 + n);
            x = withTape(33);
            Bench.due("end(" + n + ") of 33", x.end(n), 13 + n);
            x = withTape(4000);
            Bench.due("end(" + n + ") of 4,000", x.end(n), 3980 + n);
        }
    }

    private static void endRefusesNumbers() {
        Bench.sentence("BAD: another n");
        for (int n : new int[] {-1, -2, -20, 21, 22, 40, FAR[0], FAR[1], FAR[2], FAR[3], 256, 65536}) {
            Bench.due("end(" + n + ") of 20", withTape(20).end(n), -1);
            Bench.due("end(" + n + ") of 4,000", withTape(4000).end(n), -1);
            Twins.untouched("end(" + n + ")", Twins.everywhere(), x -> x.end(n), -1);
        }
        VertexLanguage x = withTape(40);
        x.end(21);
        x.end(-1);
        Bench.due("end(20) behind them", x.end(20), 40);
    }

    private static void endRefusesShortTapes() {
        Bench.sentence("BAD: .. fewer than twenty are there");
        for (int bytes = 0; bytes < 20; bytes++) {
            for (int n = 0; n <= 20; n += 5) {
                VertexLanguage x = withTape(bytes);
                Bench.due("end(" + n + ") of " + bytes, x.end(n), -1);
                Bench.due("feed behind it", feedBlanks(x), bytes + 20);
            }
        }
        Bench.due("end(0) of 20", withTape(20).end(0), 0);
        Bench.due("end(20) of 20", withTape(20).end(20), 20);
        Twins.untouched("end(0) of 19", x -> Bench.feed(x, "start{halt;}round{}"), x -> x.end(0), -1);
    }

    private static void endOfTheLastTwenty() {
        Bench.sentence("Of the last twenty bytes .. the first n .. stay");
        VertexLanguage x = new VertexLanguage();
        Bench.feed(x, "start{}round{halt;};;;;;;;;;;;;;;;;;;;;;");
        Bench.due("feed", feedBlanks(x), 60);
        Bench.due("end(0)", x.end(0), 40);
        Bench.due("end(0)", x.end(0), 20);
        Bench.due("end(19)", x.end(19), 19);
        Bench.due("program()", x.program(), 1);
        Bench.feed(x, "start{}round{halt;}halt;}");
        Bench.due("end(14) of 25", x.end(14), 19);
        Bench.due("program()", x.program(), 1);
        Bench.feed(x, "start{}round{}" + "@".repeat(20));
        Bench.due("end(0) of 34", x.end(0), 14);
        Bench.due("program()", x.program(), 0);
    }

    // ---- promise 4

    private static void statementsAnswered() {
        Bench.sentence("The tape .. is the program: how many statements it has");
        Edge.good(0, "start{}round{}");
        Edge.good(1, "start{halt;}round{}");
        Edge.good(1, "start{}round{halt;}");
        Edge.good(3, "start{if true{halt;}else{halt;}}round{}");
        Edge.good(2, "start{loop 0{halt;}}round{}");
        Edge.good(7, "column w;node n:int=1;fold f:sum;global g:sum;start{n=1;let a=1;send f 1 along;give g 1;}"
            + "round{if true{}loop 3{}halt;}");
        Edge.good(119, "start{" + "halt;".repeat(119) + "}round{}");
        Edge.good(120, "start{" + "halt;".repeat(120) + "}round{}");
    }

    private static void faultAnswered() {
        Bench.sentence("- 10 less its FAULT");
        Bench.due("FAULT 1", Bench.read(new VertexLanguage(), "start{}"), -11);
        Bench.due("FAULT 2", Bench.read(new VertexLanguage(), "start{loop 101{}}round{}"), -12);
        Bench.due("FAULT 3", Bench.read(new VertexLanguage(), "column a;column a;start{}round{}"), -13);
        Bench.due("FAULT 4", Bench.read(new VertexLanguage(), "start{a=1;}round{}"), -14);
        Bench.due("FAULT 5", Bench.read(new VertexLanguage(), "start{if 1{}}round{}"), -15);
    }

    private static void tapeEmptyBehindProgram() {
        Bench.sentence("The tape, which is empty then");
        for (String text : new String[] {"", "start{}round{}", "start{}round{}".repeat(280), "start{a=1;}round{}", "@"}) {
            VertexLanguage x = new VertexLanguage();
            Bench.read(x, text);
            Bench.due("end(0) behind program()", x.end(0), -1);
            Bench.due("feed behind program()", feedBlanks(x), 20);
            Bench.due("program() of blanks", x.program(), -11);
            Bench.due("fault(0) of blanks", x.fault(0), 20);
        }
    }

    private static void noProgramBehindAFault() {
        Bench.sentence("- 10 less its FAULT (there is no program then)");
        for (String text : new String[] {"", "start{loop 101{}}round{}", "column a;column a;start{}round{}", "start{a=1;}round{}",
            "node n:int=1;start{n=true;}round{}"}) {
            VertexLanguage x = Edge.reading("column c;node n:int=1;fold f:sum;global g:sum;start{halt;}round{}");
            Bench.due("begin(1)", x.begin(1), 1);
            Bench.read(x, text);
            Bench.due("begin(1) behind a FAULT", x.begin(1), -1);
            Bench.due("print(-1) behind a FAULT", x.print(-1), -1);
            Bench.due("print(0) behind a FAULT", x.print(0), -1);
            Bench.due("name() behind a FAULT", Bench.named(x, "c"), -1);
            for (int what = 0; what < 5; what++) {
                Bench.due("count(" + what + ") behind a FAULT", x.count(what), 0);
            }
        }
    }

    private static void runGoneWithProgram() {
        Bench.sentence("The RUN is gone");
        for (String text : new String[] {"start{}round{}", "node n:int=3;start{}round{}", "start{", "start{a=1;}round{}"}) {
            VertexLanguage x = new VertexLanguage();
            Twins.early(x);
            Bench.due("a RUN", x.told(0), 1);
            x.name();
            Bench.read(x, text);
            Bench.due("run(1)", x.run(1), -1);
            Bench.due("undo()", x.undo(), -1);
            for (int what = 0; what < 10; what++) {
                Bench.due("told(" + what + ")", x.told(what), -1);
            }
            Bench.due("state(0, 0)", x.state(0, 0), 0);
            Bench.due("message(0, 0)", x.message(0, 0), 0);
            Bench.due("messages(0, 0)", x.messages(0, 0), -1);
            Bench.due("global(0)", x.global(0), 0);
            Bench.due("halted(0)", x.halted(0), -1);
        }
    }

    private static void programLeavesTheGraph() {
        Bench.sentence("The tape .. is the program (and the graph stays)");
        for (String text : new String[] {"start{}round{}", "start{"}) {
            VertexLanguage x = new VertexLanguage();
            Twins.read(x);
            x.name();
            Bench.read(x, text);
            Bench.due("count(5)", x.count(5), 4);
            Bench.due("count(6)", x.count(6), 7);
            Bench.due("weight(6, 0, 1)", x.weight(6, 0, 1), 61);
            Bench.due("weight(6, 3, 1)", x.weight(6, 3, 1), 106);
            Bench.due("arc(3, 3)", x.arc(3, 3), 7);
        }
    }

    private static void emptyText() {
        Bench.sentence("The tape .. is the program (an empty one)");
        VertexLanguage x = new VertexLanguage();
        Bench.due("program()", x.program(), -11);
        Bench.due("fault(0)", x.fault(0), 0);
        Bench.due("fault(1)", x.fault(1), 1);
        Bench.due("program() again", x.program(), -11);
    }

    // ---- promise 5

    private static void faultPlace() {
        Bench.sentence("the place of its FAULT (what 0 ..)");
        Edge.bad(1, "^@");
        Edge.bad(1, " ^@");
        Edge.bad(1, "\n\n^@");
        Edge.bad(1, "# 3\n^@");
        Edge.bad(1, " ".repeat(3999) + "^@");
        Edge.bad(1, " ".repeat(4000) + "^");
        Edge.bad(1, "start{}round{^");
        Edge.bad(1, "start{}round{ # no more\n ^");
    }

    private static void line(int want, String text) {
        VertexLanguage x = Edge.reading(text);
        Bench.due("fault(1) of [" + text + "]", x.fault(1), want);
    }

    private static void faultLine() {
        Bench.sentence("its line (1; from 1 on)");
        line(1, "@");
        line(1, "");
        line(1, "@\n\n");
        line(2, "\n@");
        line(3, "\n\n@\n");
        line(2, "# one\n@");
        line(1, "start{}round{");
        line(2, "start{}round{\n");
        line(4, "\n\nstart{}round{\n");
        line(3, "start{\n}\nround{a=1;}\n");
        line(2, "column a;\ncolumn a;\nstart{}\nround{}");
        line(4000, "\n".repeat(3999) + "@");
        line(4001, "\n".repeat(4000));
        line(1, "# 13 is no end of a line: \r @");
    }

    private static void faultNone() {
        Bench.sentence("the place of its FAULT (.. NONE)");
        VertexLanguage x = new VertexLanguage();
        Bench.due("new: fault(0)", x.fault(0), -2);
        Bench.due("new: fault(1)", x.fault(1), -2);
        Bench.read(x, "start{}round{}");
        Bench.due("no FAULT: fault(0)", x.fault(0), -2);
        Bench.due("no FAULT: fault(1)", x.fault(1), -2);
    }

    private static void faultOfTheLatest() {
        Bench.sentence("Of the latest program()");
        VertexLanguage x = Edge.reading("\n@");
        Bench.due("fault(0)", x.fault(0), 1);
        Bench.due("fault(1)", x.fault(1), 2);
        Bench.feed(x, "start{}round{}");
        Bench.due("the tape does not matter: fault(0)", x.fault(0), 1);
        x.nodes(3);
        x.begin(1);
        Bench.due("nor do other calls: fault(1)", x.fault(1), 2);
        x.program();
        Bench.due("no FAULT: fault(0)", x.fault(0), -2);
        Bench.read(x, "\n\nstart{a=1;}round{}");
        Bench.due("FAULT 4: fault(0)", x.fault(0), 8);
        Bench.due("FAULT 4: fault(1)", x.fault(1), 3);
        Bench.read(x, "");
        Bench.due("an empty one: fault(0)", x.fault(0), 0);
        Bench.due("an empty one: fault(1)", x.fault(1), 1);
    }

    private static void faultRefused() {
        Bench.sentence("BAD: another what");
        for (int what : new int[] {-1, 2, -2, 3, 256, FAR[0], FAR[1], FAR[2], FAR[3]}) {
            Twins.untouched("fault(" + what + ")", Twins.everywhere(), x -> x.fault(what), -1);
        }
        for (int what = 0; what < 2; what++) {
            int w = what;
            Twins.untouched("fault(" + what + ")", Twins::fresh, x -> x.fault(w), -2);
            Twins.untouched("fault(" + what + ")", Twins::running, x -> x.fault(w), -2);
            Twins.untouched("fault(" + what + ")", Twins::faulty, x -> x.fault(w), what == 0 ? 17 : 2);
        }
    }
}
