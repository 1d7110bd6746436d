import java.util.ArrayList;
import java.util.List;

/** The edges of promise 14, undo: the last 6 TURNS, and what undoing leaves as it is. */
public final class EdgeUndoTest {
    // Everything there is: states, messages of two folds, globals, halting, waking, draws.
    private static final String TEXT = "column w;node n:int=1;node b:bool=true;fold f:sum;fold h:first;global g:sum;global a:all;"
        + "start{send f id+1 along;give g n;}"
        + "round{n=n*3+f+draw(50);b=!b;give g n+g;give a b;send h n against;if n%2==0{send f n+arc.w along;}if n%3==id{halt;}}";

    private EdgeUndoTest() { }

    public static void main(String[] args) {
        answersTheTurn();
        lastSix();
        oneMoreThanSix();
        fewerThanSix();
        allAsItWas();
        acrossManyTurns();
        doneAgain();
        undoneAndDone();
        sixAgain();
        overSeveralCalls();
        behindFailures();
        behindTheEnd();
        toTheBegin();
        nothingKept();
        noRun();
        leavesTheSteps();
        leavesTheFailure();
        leavesTheRest();
        beginForgets();
        Bench.finish();
    }

    private static VertexLanguage begun() {
        VertexLanguage x = Edge.begun(TEXT, 3, 0, 1, 1, 2, 2, 0, 1, 1);
        for (int arc = 0; arc < 4; arc++) {
            x.weight(arc, 0, 3 * arc + 1);
        }
        return x;
    }

    private static String seen(VertexLanguage x) {
        StringBuilder s = new StringBuilder();
        for (int what = 0; what < 4; what++) {
            s.append(x.told(what)).append(' ');
        }
        for (int node = 0; node < 3; node++) {
            s.append("| ").append(x.halted(node)).append(' ');
            for (int k = 0; k < 2; k++) {
                s.append(x.state(node, k)).append(' ').append(x.message(node, k)).append(' ').append(x.messages(node, k)).append(' ');
            }
        }
        return s.append("| ").append(x.global(0)).append(' ').append(x.global(1)).toString();
    }

    /** What is seen ahead of each TURN 0 .. turns, each on an object that was never undone. */
    private static List<String> allSeen(int turns) {
        List<String> all = new ArrayList<>();
        for (int turn = 0; turn <= turns; turn++) {
            VertexLanguage x = begun();
            for (int i = 0; i < turn; i++) {
                x.run(1);
            }
            all.add(seen(x));
        }
        return all;
    }

    private static void answersTheTurn() {
        Bench.sentence("The last TURN is undone: the TURN that comes next then");
        VertexLanguage x = Edge.begun("start{}round{}", 1);
        x.run(4);
        for (int turn = 3; turn >= 0; turn--) {
            Bench.due("undo()", x.undo(), turn);
            Bench.due("told(0)", x.told(0), turn);
        }
    }

    private static void lastSix() {
        Bench.sentence("TURNS that were done can be undone, the last 6");
        for (int turns = 6; turns <= 20; turns++) {
            VertexLanguage x = Edge.begun("start{}round{}", 1);
            x.run(turns);
            Bench.due("told(8) behind " + turns, x.told(8), 6);
            for (int i = 1; i <= 6; i++) {
                Bench.due("undo() " + i + " behind " + turns, x.undo(), turns - i);
                Bench.due("told(8)", x.told(8), 6 - i);
            }
        }
    }

    private static void oneMoreThanSix() {
        Bench.sentence("the last 6 (NONE: none that is kept)");
        for (int turns : new int[] {6, 7, 8, 9, 13, 14, 15, 100}) {
            VertexLanguage x = Edge.begun("node n:int=0;start{n=1;}round{n=n+1;}", 1);
            x.run(turns);
            for (int i = 1; i <= 6; i++) {
                x.undo();
            }
            Bench.due("undo() 7", x.undo(), -2);
            Bench.due("undo() 8", x.undo(), -2);
            Bench.due("told(0)", x.told(0), turns - 6);
            Bench.due("state(0, 0)", x.state(0, 0), turns - 6);
        }
    }

    private static void fewerThanSix() {
        Bench.sentence("TURNS that were done can be undone (no more than were done)");
        for (int turns = 1; turns <= 6; turns++) {
            VertexLanguage x = Edge.begun("start{}round{}", 1);
            x.run(turns);
            Bench.due("told(8)", x.told(8), turns);
            for (int i = 1; i <= turns; i++) {
                Bench.due("undo()", x.undo(), turns - i);
            }
            Bench.due("undo()", x.undo(), -2);
        }
    }

    private static void allAsItWas() {
        Bench.sentence("The last TURN is undone (states, messages, globals, who has halted)");
        List<String> all = allSeen(12);
        VertexLanguage x = begun();
        x.run(12);
        Bench.due("ahead of TURN 12", seen(x), all.get(12));
        for (int turn = 11; turn >= 6; turn--) {
            Bench.due("undo()", x.undo(), turn);
            Bench.due("ahead of TURN " + turn, seen(x), all.get(turn));
        }
    }

    private static void acrossManyTurns() {
        Bench.sentence("the last 6 (behind many)");
        for (int turns : new int[] {7, 8, 9, 10, 15, 16, 17, 18}) {
            List<String> all = allSeen(turns);
            VertexLanguage x = begun();
            for (int i = 0; i < turns; i++) {
                x.run(1);
            }
            for (int turn = turns - 1; turn >= turns - 6; turn--) {
                x.undo();
                Bench.due("ahead of TURN " + turn, seen(x), all.get(turn));
            }
        }
    }

    private static void doneAgain() {
        Bench.sentence("The last TURN is undone (and is done again as it was)");
        List<String> all = allSeen(10);
        for (int back = 1; back <= 6; back++) {
            VertexLanguage x = begun();
            x.run(8);
            for (int i = 0; i < back; i++) {
                x.undo();
            }
            for (int turn = 8 - back; turn < 10; turn++) {
                Bench.due("ahead of TURN " + turn, seen(x), all.get(turn));
                Bench.due("run(1)", x.run(1), 1);
            }
            Bench.due("ahead of TURN 10", seen(x), all.get(10));
        }
    }

    private static void undoneAndDone() {
        Bench.sentence("TURNS that were done can be undone (those undone can not)");
        VertexLanguage x = Edge.begun("start{}round{}", 1);
        x.run(10);
        x.undo();
        x.undo();
        Bench.due("told(8)", x.told(8), 4);
        x.run(1);
        Bench.due("told(8)", x.told(8), 5);
        x.undo();
        x.undo();
        Bench.due("told(8)", x.told(8), 3);
        x.run(2);
        Bench.due("told(8)", x.told(8), 5);
        Bench.due("told(0)", x.told(0), 9);
        for (int turn = 8; turn >= 4; turn--) {
            Bench.due("undo()", x.undo(), turn);
        }
        Bench.due("undo()", x.undo(), -2);
        x.run(1);
        Bench.due("told(8)", x.told(8), 1);
        Bench.due("undo()", x.undo(), 4);
        Bench.due("undo()", x.undo(), -2);
    }

    private static void sixAgain() {
        Bench.sentence("the last 6 (again behind undoing)");
        List<String> all = allSeen(16);
        VertexLanguage x = begun();
        x.run(9);
        for (int i = 0; i < 3; i++) {
            x.undo();
        }
        x.run(2);
        Bench.due("told(8)", x.told(8), 5);
        x.run(1);
        Bench.due("told(8)", x.told(8), 6);
        x.run(7);
        Bench.due("told(8)", x.told(8), 6);
        Bench.due("ahead of TURN 16", seen(x), all.get(16));
        for (int turn = 15; turn >= 10; turn--) {
            x.undo();
            Bench.due("ahead of TURN " + turn, seen(x), all.get(turn));
        }
        Bench.due("undo()", x.undo(), -2);
    }

    private static void overSeveralCalls() {
        Bench.sentence("TURNS that were done (in whichever calls of run)");
        VertexLanguage x = Edge.begun("start{}round{}", 1);
        x.run(2);
        x.run(1);
        x.run(4);
        Bench.due("told(8)", x.told(8), 6);
        for (int turn = 6; turn >= 1; turn--) {
            Bench.due("undo()", x.undo(), turn);
        }
        Bench.due("undo()", x.undo(), -2);
    }

    private static void behindFailures() {
        Bench.sentence("TURNS that were done (one that failed was not)");
        VertexLanguage x = Edge.begun("node n:int=0;start{n=1;}round{n=n+1;let a=1/(8-turn);}", 2);
        for (int i = 0; i < 5; i++) {
            Bench.due("run(100)", x.run(100), -4);
            Bench.due("told(8)", x.told(8), 6);
        }
        for (int turn = 7; turn >= 2; turn--) {
            Bench.due("undo()", x.undo(), turn);
            Bench.due("state(1, 0)", x.state(1, 0), turn);
        }
        Bench.due("undo()", x.undo(), -2);
        // Nothing was done: nothing can be undone.
        x = Edge.begun("start{let a=1/0;}round{}", 1);
        Bench.due("run(1)", x.run(1), -4);
        Bench.due("told(8)", x.told(8), 0);
        Bench.due("undo()", x.undo(), -2);
    }

    private static void behindTheEnd() {
        Bench.sentence("The last TURN is undone (of a RUN that has ENDED too)");
        VertexLanguage x = Edge.begun("node n:int=0;start{}round{n=turn;if turn==3{halt;}}", 2);
        Bench.due("run(100)", x.run(100), 4);
        Bench.due("run(100) of an ENDED one", x.run(100), 0);
        Bench.due("told(8)", x.told(8), 4);
        Bench.due("told(1)", x.told(1), 1);
        Bench.due("undo()", x.undo(), 3);
        Bench.due("told(1)", x.told(1), 0);
        Bench.due("told(3)", x.told(3), 0);
        Bench.due("state(0, 0)", x.state(0, 0), 2);
        Bench.due("run(100)", x.run(100), 1);
        Bench.due("told(1)", x.told(1), 1);
    }

    private static void toTheBegin() {
        Bench.sentence("The last TURN is undone (TURN 0 too)");
        List<String> all = allSeen(0);
        VertexLanguage x = begun();
        x.run(1);
        Bench.due("undo()", x.undo(), 0);
        Bench.due("ahead of TURN 0", seen(x), all.get(0));
        Bench.due("undo()", x.undo(), -2);
        Bench.due("the RUN is there still", x.told(0), 0);
        Bench.due("run(1)", x.run(1), 1);
    }

    private static void nothingKept() {
        Bench.sentence("NONE: none that is kept");
        Twins.untouched("undo() behind begin()", x -> {
            Twins.early(x);
            x.begin(4);
        }, VertexLanguage::undo, -2);
        Twins.untouched("undo() behind all undone", x -> {
            Twins.running(x);
            for (int i = 0; i < 6; i++) {
                x.undo();
            }
        }, VertexLanguage::undo, -2);
    }

    private static void noRun() {
        Bench.sentence("undo .. BAD: no RUN");
        Twins.untouched("undo()", Twins.withoutRun(), VertexLanguage::undo, -1);
    }

    private static void leavesTheSteps() {
        Bench.sentence("9 STEPS of the last TURN that was done .. (undo() leaves that as it is)");
        VertexLanguage x = Edge.begun("start{}round{if turn==1{}if turn>=2{loop 5{}}}", 1);
        int[] want = {0, 8, 14};
        for (int turn = 0; turn < 3; turn++) {
            x.run(1);
            Bench.due("told(9)", x.told(9), want[turn]);
        }
        x.undo();
        Bench.due("told(9) behind undo()", x.told(9), 14);
        x.undo();
        x.undo();
        Bench.due("told(9) behind undo()", x.told(9), 14);
        x.undo();
        Bench.due("told(9) behind undo() that answers NONE", x.told(9), 14);
        x.run(1);
        Bench.due("told(9) behind TURN 0", x.told(9), 0);
    }

    private static void leavesTheFailure() {
        Bench.sentence("4 the latest FAILURE since begin() (undo() does not take it back)");
        VertexLanguage x = Edge.begun("start{}round{let a=1/(3-turn-id);}", 2);
        Bench.due("run(100)", x.run(100), -4);
        int place = x.told(6);
        int[] want = {1, 1, place, 2};
        for (int back = 0; back < 4; back++) {
            for (int what = 4; what < 8; what++) {
                Bench.due("told(" + what + ")", x.told(what), want[what - 4]);
            }
            x.undo();
        }
    }

    private static void leavesTheRest() {
        Bench.sentence("The last TURN is undone (the program, the graph, the tape stay)");
        VertexLanguage x = new VertexLanguage();
        Twins.early(x);
        x.weight(0, 0, 999);
        int printed = x.print(-1);
        Bench.due("undo()", x.undo(), 0);
        Bench.due("weight(0, 0, 1)", x.weight(0, 0, 1), 999);
        Bench.due("print(-1)", x.print(-1), printed);
        Bench.due("count(5)", x.count(5), 4);
        Bench.due("count(6)", x.count(6), 7);
        Bench.due("name()", x.name(), 101);
    }

    private static void beginForgets() {
        Bench.sentence("TURNS that were done can be undone (of this RUN)");
        VertexLanguage x = Edge.begun("start{}round{}", 1);
        x.run(9);
        x.begin(1);
        Bench.due("told(8)", x.told(8), 0);
        Bench.due("undo()", x.undo(), -2);
        x.run(2);
        Bench.due("told(8)", x.told(8), 2);
        Bench.due("undo()", x.undo(), 1);
        Bench.due("undo()", x.undo(), 0);
        Bench.due("undo()", x.undo(), -2);
    }
}
