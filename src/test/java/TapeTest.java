/** Promises 1 to 3: a new object, feed, end. */
public final class TapeTest {
    private TapeTest() { }

    public static void main(String[] args) {
        newObject();
        feeding();
        fullTape();
        cutting();
        Bench.finish();
    }

    private static void newObject() {
        VertexLanguage x = new VertexLanguage();
        Bench.due("BAD", VertexLanguage.BAD, -1);
        Bench.due("NONE", VertexLanguage.NONE, -2);
        Bench.due("FULL", VertexLanguage.FULL, -3);
        Bench.due("FAILED", VertexLanguage.FAILED, -4);
        Bench.due("no tape: end(0)", x.end(0), -1);
        Bench.due("no program: print(-1)", x.print(-1), -1);
        Bench.due("no program: name()", x.name(), -1);
        Bench.due("no program: begin(0)", x.begin(0), -1);
        Bench.due("nothing read: fault(0)", x.fault(0), -2);
        Bench.due("nothing read: fault(1)", x.fault(1), -2);
        for (int what = 0; what < 5; what++) {
            Bench.due("no program: count(" + what + ")", x.count(what), 0);
        }
        Bench.due("one node", x.count(5), 1);
        Bench.due("no arcs", x.count(6), 0);
        Bench.due("no RUN: run(1)", x.run(1), -1);
        Bench.due("no RUN: undo()", x.undo(), -1);
        Bench.due("no RUN: told(0)", x.told(0), -1);
        Bench.due("no RUN: state(0, 0)", x.state(0, 0), 0);
        Bench.due("no RUN: message(0, 0)", x.message(0, 0), 0);
        Bench.due("no RUN: messages(0, 0)", x.messages(0, 0), -1);
        Bench.due("no RUN: global(0)", x.global(0), 0);
        Bench.due("no RUN: halted(0)", x.halted(0), -1);
    }

    private static void feeding() {
        VertexLanguage x = new VertexLanguage();
        // The highest byte comes first: start{}round{halt;} and a blank.
        Bench.due("feed", x.feed(0x73746172, 0x747B7D72, 0x6F756E64, 0x7B68616C, 0x743B7D20), 20);
        Bench.due("program()", x.program(), 1);
        Bench.due("printed", Bench.printed(x), "start { } round { halt ; }");
        Bench.due("the tape is empty then", x.end(20), -1);
        // Bytes above 127 are bytes too: they are no TOKEN.
        Bench.due("feed", x.feed(-1, -1, -1, -1, -1), 20);
        Bench.due("feed", x.feed(0, 0, 0, 0, 0), 40);
        Bench.due("program()", x.program(), -11);
        Bench.due("fault(0)", x.fault(0), 0);
    }

    private static void fullTape() {
        VertexLanguage x = new VertexLanguage();
        int blanks = 0x20202020;
        for (int i = 1; i <= 200; i++) {
            Bench.due("feed " + i, x.feed(blanks, blanks, blanks, blanks, blanks), 20 * i);
        }
        Bench.due("feed above 4,000", x.feed(blanks, blanks, blanks, blanks, blanks), -3);
        Bench.due("end(20) of a full tape", x.end(20), 4000);
        Bench.due("end(1) of a full tape", x.end(1), 3981);
        Bench.due("feed of 20 to 3,981", x.feed(blanks, blanks, blanks, blanks, blanks), -3);
        Bench.due("end(19)", x.end(19), 3980);
        Bench.due("feed of 20 to 3,980", x.feed(blanks, blanks, blanks, blanks, blanks), 4000);
        Bench.due("program() of 4,000 blanks", x.program(), -11);
        Bench.due("its place", x.fault(0), 4000);
        Bench.due("feed after it", x.feed(blanks, blanks, blanks, blanks, blanks), 20);
    }

    private static void cutting() {
        VertexLanguage x = new VertexLanguage();
        Bench.due("end of nothing", x.end(0), -1);
        x.feed(0, 0, 0, 0, 0);
        Bench.due("end(-1)", x.end(-1), -1);
        Bench.due("end(21)", x.end(21), -1);
        Bench.due("end(MIN)", x.end(Integer.MIN_VALUE), -1);
        Bench.due("end(MAX)", x.end(Integer.MAX_VALUE), -1);
        Bench.due("end(20)", x.end(20), 20);
        Bench.due("end(19)", x.end(19), 19);
        Bench.due("fewer than twenty are there", x.end(19), -1);
        Bench.due("feed behind 19", x.feed(0, 0, 0, 0, 0), 39);
        Bench.due("end(0)", x.end(0), 19);
        Bench.due("end(0) again", x.end(0), -1);
        Bench.due("feed behind 19", x.feed(0, 0, 0, 0, 0), 39);
        Bench.due("end(5)", x.end(5), 24);
        Bench.due("end(5) again", x.end(5), 9);
    }
}
