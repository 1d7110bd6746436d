/** The edges of promises 15 to 20: told, state, message, messages, global, halted. */
public final class EdgeReadoutTest {
    private static final int MIN = Integer.MIN_VALUE, MAX = Integer.MAX_VALUE;

    // Objects of Twins have four nodes, and three states, folds and globals.
    private static final int[] BEHIND_THREE = {-1, 3, 4, 7, 8, MIN, MAX}, BEHIND_FOUR = {-1, 4, 5, 39, 40, MIN, MAX};

    private EdgeReadoutTest() { }

    public static void main(String[] args) {
        twinsAreAsTold();
        toldTurn();
        toldEnded();
        toldMessages();
        toldHalted();
        toldFailure();
        toldLatestFailure();
        toldUndoable();
        toldSteps();
        toldRefused();
        toldWithoutRun();
        stateOfAll();
        stateBools();
        stateRefused();
        messageFolded();
        messageRefused();
        messagesCounted();
        messagesRefused();
        globalRead();
        globalRefused();
        haltedAnswers();
        haltedRefused();
        smallerBehindLarger();
        readingChangesNothing();
        Bench.finish();
    }

    private static void told(VertexLanguage x, int... want) {
        for (int what = 0; what < want.length; what++) {
            Bench.due("told(" + what + ")", x.told(what), want[what]);
        }
    }

    private static void twinsAreAsTold() {
        Bench.sentence("what the objects of Twins are");
        VertexLanguage x = new VertexLanguage();
        Twins.running(x);
        Bench.due("told(0)", x.told(0), 9);
        Bench.due("told(4)", x.told(4), 1);
        Bench.due("told(8)", x.told(8), 6);
        Bench.due("messages are under way", x.told(2) > 0 ? 1 : 0, 1);
        x = new VertexLanguage();
        Twins.early(x);
        Bench.due("told(0)", x.told(0), 1);
        Bench.due("told(8)", x.told(8), 1);
        x = new VertexLanguage();
        Twins.read(x);
        Bench.due("told(0)", x.told(0), -1);
        Bench.due("count(1)", x.count(1), 3);
        x = new VertexLanguage();
        Twins.faulty(x);
        Bench.due("fault(0)", x.fault(0), 17);
    }

    // ---- promise 15

    private static void toldTurn() {
        Bench.sentence("0 the TURN that comes next");
        VertexLanguage x = Edge.begun("start{}round{let a=1/(300-turn);}", 1);
        Bench.due("told(0)", x.told(0), 0);
        x.run(1);
        Bench.due("told(0)", x.told(0), 1);
        x.run(100);
        x.run(100);
        Bench.due("told(0)", x.told(0), 201);
        x.run(100);
        Bench.due("told(0) behind a FAILURE", x.told(0), 300);
        x.undo();
        Bench.due("told(0)", x.told(0), 299);
    }

    private static void toldEnded() {
        Bench.sentence("1 whether it has ENDED");
        VertexLanguage x = Edge.begun("fold f:sum;start{send f 1 along;halt;}round{halt;}", 1, 0, 0);
        Bench.due("told(1)", x.told(1), 0);
        x.run(1);
        Bench.due("told(1), a message is under way", x.told(1), 0);
        x.run(1);
        Bench.due("told(1)", x.told(1), 1);
        x.undo();
        Bench.due("told(1)", x.told(1), 0);
    }

    private static void toldMessages() {
        Bench.sentence("2 messages under way");
        VertexLanguage x = new VertexLanguage();
        Bench.read(x, "fold a:sum;fold b:all;fold c:sum;fold d:first;start{send a 1 along;send b true along;send c 1 along;"
            + "send d 1 along;}round{if id==0{send a 1 along;}}");
        x.nodes(40);
        for (int arc = 0; arc < 120; arc++) {
            x.arc(arc % 40, (arc * 7 + 1) % 40);
        }
        x.begin(1);
        Bench.due("told(2)", x.told(2), 0);
        x.run(1);
        Bench.due("told(2)", x.told(2), 480);
        x.run(1);
        Bench.due("told(2)", x.told(2), 3);
        // Many over one arc, by one node.
        x = Edge.begun("fold a:sum;start{loop 100{send a 1 along;}}round{}", 2, 0, 1);
        x.run(1);
        Bench.due("told(2)", x.told(2), 100);
        Bench.due("messages(1, 0)", x.messages(1, 0), 100);
    }

    private static void toldHalted() {
        Bench.sentence("3 nodes that have halted");
        VertexLanguage x = Edge.begun("start{if id<5{halt;}}round{if turn<40&&id==turn+4{halt;}}", 40);
        Bench.due("told(3)", x.told(3), 0);
        for (int turn = 0; turn < 36; turn++) {
            x.run(1);
            Bench.due("told(3)", x.told(3), 5 + turn);
        }
        Bench.due("told(1)", x.told(1), 1);
    }

    private static void toldFailure() {
        Bench.sentence("4 the latest FAILURE since begin() (0: none), 5 its node, 6 the place .., 7 its TURN");
        String text = "node n:int=0;start{}round{if turn==3&&id==2{n=1/0;}}";
        VertexLanguage x = Edge.begun(text, 4);
        told(x, 0, 0, 0, 0, 0, 0, 0, 0, 0, 0);
        x.run(3);
        told(x, 3, 0, 0, 0, 0, 0, 0, 0, 3);
        x.run(1);
        told(x, 3, 0, 0, 0, 1, 2, text.indexOf('/'), 3, 3);
        text = "node n:int=0;start{}round{n=draw(2-id);}";
        x = Edge.begun(text, 4);
        x.run(2);
        told(x, 1, 0, 0, 0, 2, 2, text.indexOf("draw"), 1, 1);
        text = "node n:int=0;start{}round{if id==1{loop 100{loop 100{ n = 1 ; }}}}";
        x = Edge.begun(text, 4);
        x.run(2);
        // 4 of the if, 7 with both loops; 302 each time; 87 are left, 3 a repeat: the next one is the inner loop's.
        told(x, 1, 0, 0, 0, 3, 1, text.lastIndexOf("loop"), 1, 1);
    }

    private static void toldLatestFailure() {
        Bench.sentence("4 the latest FAILURE since begin()");
        String text = "column w;node n:int=0;fold f:sum;start{send f 1/arc.w along;}round{send f draw(arc.w) along;}";
        VertexLanguage x = Edge.begun(text, 2, 0, 1);
        x.run(1);
        told(x, 0, 0, 0, 0, 1, 0, text.indexOf('/'), 0, 0, 0);
        x.weight(0, 0, 1);
        Bench.due("run(1)", x.run(1), 1);
        told(x, 1, 0, 1, 0, 1, 0, text.indexOf('/'), 0, 1, 6);
        x.weight(0, 0, -1);
        Bench.due("run(1)", x.run(1), -4);
        told(x, 1, 0, 1, 0, 2, 0, text.indexOf("draw"), 1, 1, 6);
        x.begin(1);
        told(x, 0, 0, 0, 0, 0, 0, 0, 0, 0, 0);
    }

    private static void toldUndoable() {
        Bench.sentence("8 TURNS that can be undone");
        VertexLanguage x = Edge.begun("start{}round{}", 1);
        for (int turns = 0; turns < 10; turns++) {
            Bench.due("told(8)", x.told(8), Math.min(turns, 6));
            x.run(1);
        }
        for (int left = 5; left >= 0; left--) {
            x.undo();
            Bench.due("told(8)", x.told(8), left);
        }
        x.undo();
        Bench.due("told(8)", x.told(8), 0);
    }

    private static void toldSteps() {
        Bench.sentence("9 STEPS of the last TURN that was done, all nodes together");
        VertexLanguage x = Edge.begun("start{if id==0{halt;}loop 2{}}round{if id==1{halt;}let a=1/(3-turn);}", 3);
        Bench.due("told(9), none was done", x.told(9), 0);
        x.run(1);
        Bench.due("told(9)", x.told(9), (4 + 1) + (4 + 3) * 2);
        x.run(1);
        Bench.due("told(9), 0 did nothing", x.told(9), (4 + 1) + (4 + 6));
        x.run(1);
        Bench.due("told(9), of 2 alone", x.told(9), 10);
        Bench.due("run(1)", x.run(1), -4);
        Bench.due("told(9), a TURN that failed was not done", x.told(9), 10);
        x.begin(1);
        Bench.due("told(9), none was done", x.told(9), 0);
    }

    private static void toldRefused() {
        Bench.sentence("told .. BAD: .. another number");
        for (int what : new int[] {-1, 10, 11, -2, 100, 256, MIN, MAX}) {
            Twins.untouched("told(" + what + ")", Twins.withRun(), x -> x.told(what), -1);
        }
    }

    private static void toldWithoutRun() {
        Bench.sentence("told .. BAD: no RUN");
        for (int what = -1; what <= 10; what++) {
            int w = what;
            Twins.untouched("told(" + what + ")", Twins.withoutRun(), x -> x.told(w), -1);
        }
    }

    // ---- promise 16

    private static void stateOfAll() {
        Bench.sentence("A node's state");
        VertexLanguage x = Edge.begun("node a:int=0;node b:int=0;node c:int=0;node d:int=0;node e:int=0;node f:int=0;node g:int=0;"
            + "node h:int=0;start{a=id*10;b=a+1;c=a+2;d=a+3;e=a+4;f=a+5;g=a+6;h=a+7;}round{}", 40);
        x.run(1);
        for (int node = 0; node < 40; node++) {
            for (int k = 0; k < 8; k++) {
                Bench.due("state(" + node + ", " + k + ")", x.state(node, k), node * 10 + k);
            }
        }
    }

    private static void stateBools() {
        Bench.sentence("A node's state (a bool: 1, 0)");
        VertexLanguage x = Edge.begun("node a:bool=true;node b:bool=false;start{a=!a;b=!b;}round{}", 1);
        Bench.due("state(0, 0)", x.state(0, 0), 1);
        Bench.due("state(0, 1)", x.state(0, 1), 0);
        x.run(1);
        Bench.due("state(0, 0)", x.state(0, 0), 0);
        Bench.due("state(0, 1)", x.state(0, 1), 1);
    }

    /** All ints are 7, all bools true: what answers 0 is none such. */
    private static VertexLanguage full(int nodes) {
        VertexLanguage x = Edge.begun("node a:int=7;node b:bool=true;fold f:sum;fold h:all;global g:sum;global e:some;"
            + "start{send f 7 along;send h true along;give g 7;give e true;halt;}round{}", nodes, 0, 0);
        x.run(1);
        return x;
    }

    private static void stateRefused() {
        Bench.sentence("state .. BAD (0 here): no RUN, none such");
        VertexLanguage x = full(3);
        Bench.due("state(0, 0)", x.state(0, 0), 7);
        Bench.due("state(2, 1)", x.state(2, 1), 1);
        for (int wrong : new int[] {-1, 3, 4, 39, 40, MIN, MAX}) {
            Bench.due("state(" + wrong + ", 0)", x.state(wrong, 0), 0);
            Bench.due("state(" + wrong + ", 1)", x.state(wrong, 1), 0);
        }
        for (int wrong : new int[] {-1, 2, 3, 7, 8, MIN, MAX}) {
            Bench.due("state(0, " + wrong + ")", x.state(0, wrong), 0);
            Bench.due("state(2, " + wrong + ")", x.state(2, wrong), 0);
        }
        for (int wrong : BEHIND_THREE) {
            Twins.untouched("state(0, " + wrong + ")", Twins::running, y -> y.state(0, wrong), 0);
        }
        for (int wrong : BEHIND_FOUR) {
            Twins.untouched("state(" + wrong + ", 0)", Twins::running, y -> y.state(wrong, 0), 0);
        }
        Twins.untouched("state(0, 0)", Twins.withoutRun(), y -> y.state(0, 0), 0);
        Bench.due("a program without states", Edge.begun("start{}round{}", 1).state(0, 0), 0);
        Bench.due("the last of 40", full(40).state(39, 0), 7);
        Bench.due("behind the last of 40", full(40).state(40, 0), 0);
    }

    // ---- promises 17 and 18

    private static void messageFolded() {
        Bench.sentence("What is under way to a node of a fold, folded (a bool: 1, 0)");
        VertexLanguage x = Edge.begun("fold a:sum;fold b:least;fold c:all;fold d:some;start{send a id+1 along;send b id+1 along;"
            + "send c id>0 along;send d id>0 along;}round{}", 3, 0, 2, 1, 2, 1, 1);
        Bench.due("nothing yet", x.message(2, 0), 0);
        x.run(1);
        int[] toTwo = {3, 1, 0, 1};
        int[] toOne = {2, 2, 1, 1};
        int[] toNone = {0, MAX, 1, 0};
        for (int k = 0; k < 4; k++) {
            Bench.due("message(2, " + k + ")", x.message(2, k), toTwo[k]);
            Bench.due("message(1, " + k + ")", x.message(1, k), toOne[k]);
            Bench.due("message(0, " + k + ")", x.message(0, k), toNone[k]);
        }
    }

    private static void messageRefused() {
        Bench.sentence("message .. BAD (0 here): none such");
        VertexLanguage x = full(3);
        Bench.due("message(0, 0)", x.message(0, 0), 7);
        Bench.due("message(2, 1), all of nothing", x.message(2, 1), 1);
        for (int wrong : new int[] {-1, 3, 4, 39, 40, MIN, MAX}) {
            Bench.due("message(" + wrong + ", 0)", x.message(wrong, 0), 0);
            Bench.due("message(" + wrong + ", 1)", x.message(wrong, 1), 0);
        }
        for (int wrong : new int[] {-1, 2, 3, 4, MIN, MAX}) {
            Bench.due("message(0, " + wrong + ")", x.message(0, wrong), 0);
            Bench.due("message(2, " + wrong + ")", x.message(2, wrong), 0);
        }
        for (int wrong : BEHIND_THREE) {
            Twins.untouched("message(0, " + wrong + ")", Twins::running, y -> y.message(0, wrong), 0);
        }
        for (int wrong : BEHIND_FOUR) {
            Twins.untouched("message(" + wrong + ", 0)", Twins::running, y -> y.message(wrong, 0), 0);
        }
        x = Edge.begun("fold f:least;start{}round{}", 1);
        Bench.due("message(0, 0), least of nothing", x.message(0, 0), MAX);
        Bench.due("message(0, 1)", x.message(0, 1), 0);
        Bench.due("message(1, 0)", x.message(1, 0), 0);
        x.nodes(1);
        Bench.due("no RUN: message(0, 0)", x.message(0, 0), 0);
        Twins.untouched("message(0, 0)", Twins.withoutRun(), y -> y.message(0, 0), 0);
    }

    private static void messagesCounted() {
        Bench.sentence("How many messages of a fold are under way to a node");
        VertexLanguage x = Edge.begun("fold a:sum;fold b:sum;start{if id==0{send a 0 along;loop 3{send b 0 against;}}}round{}",
            3, 0, 1, 0, 1, 2, 0, 0, 0);
        Bench.due("nothing yet", x.messages(1, 0), 0);
        x.run(1);
        int[] a = {1, 2, 0};
        int[] b = {3, 0, 3};
        for (int node = 0; node < 3; node++) {
            Bench.due("messages(" + node + ", 0)", x.messages(node, 0), a[node]);
            Bench.due("messages(" + node + ", 1)", x.messages(node, 1), b[node]);
        }
        x.run(1);
        Bench.due("they came", x.messages(1, 0), 0);
    }

    private static void messagesRefused() {
        Bench.sentence("messages .. BAD: none such");
        VertexLanguage x = full(3);
        Bench.due("messages(0, 0)", x.messages(0, 0), 1);
        Bench.due("messages(2, 1)", x.messages(2, 1), 0);
        for (int wrong : new int[] {-1, 3, 4, 39, 40, MIN, MAX}) {
            Bench.due("messages(" + wrong + ", 0)", x.messages(wrong, 0), -1);
        }
        for (int wrong : new int[] {-1, 2, 3, 4, MIN, MAX}) {
            Bench.due("messages(0, " + wrong + ")", x.messages(0, wrong), -1);
        }
        for (int wrong : BEHIND_THREE) {
            Twins.untouched("messages(0, " + wrong + ")", Twins::running, y -> y.messages(0, wrong), -1);
        }
        for (int wrong : BEHIND_FOUR) {
            Twins.untouched("messages(" + wrong + ", 0)", Twins::running, y -> y.messages(wrong, 0), -1);
        }
        Twins.untouched("messages(0, 0)", Twins.withoutRun(), y -> y.messages(0, 0), -1);
        Bench.due("no folds: messages(0, 0)", Edge.begun("start{}round{}", 1).messages(0, 0), -1);
    }

    // ---- promise 19

    private static void globalRead() {
        Bench.sentence("A global as it is read in the next TURN (a bool: 1, 0)");
        VertexLanguage x = Edge.begun("node n:int=0;node b:bool=false;global g:sum;global a:all;global s:some;global m:most;"
            + "start{give g id;give a id<2;give s id<2;give m id;}round{n=g*10+m;b=a==s;}", 3);
        int[] first = {0, 1, 0, MIN};
        int[] next = {3, 0, 1, 2};
        for (int k = 0; k < 4; k++) {
            Bench.due("global(" + k + ")", x.global(k), first[k]);
        }
        x.run(1);
        for (int k = 0; k < 4; k++) {
            Bench.due("global(" + k + ")", x.global(k), next[k]);
        }
        x.run(1);
        Bench.due("as it was read", x.state(2, 0), 32);
        Bench.due("as it was read", x.state(2, 1), 0);
        for (int k = 0; k < 4; k++) {
            Bench.due("global(" + k + ")", x.global(k), first[k]);
        }
    }

    private static void globalRefused() {
        Bench.sentence("global .. BAD (0 here): none such");
        VertexLanguage x = full(3);
        Bench.due("global(0)", x.global(0), 21);
        Bench.due("global(1)", x.global(1), 1);
        for (int wrong : new int[] {-1, 2, 3, 4, MIN, MAX}) {
            Bench.due("global(" + wrong + ")", x.global(wrong), 0);
        }
        for (int wrong : BEHIND_THREE) {
            Twins.untouched("global(" + wrong + ")", Twins::running, y -> y.global(wrong), 0);
        }
        x = Edge.begun("global g:least;start{}round{}", 1);
        Bench.due("global(0), least of nothing", x.global(0), MAX);
        Bench.due("global(1)", x.global(1), 0);
        x.nodes(1);
        Bench.due("no RUN: global(0)", x.global(0), 0);
        Twins.untouched("global(0)", Twins.withoutRun(), y -> y.global(0), 0);
    }

    // ---- promise 20

    private static void haltedAnswers() {
        Bench.sentence("Whether a node has halted");
        VertexLanguage x = Edge.begun("fold f:sum;start{if id%2==1{halt;}}round{if id==0&&turn==1{send f 1 along;}}", 4, 0, 1);
        int[][] want = {{0, 0, 0, 0}, {0, 1, 0, 1}, {0, 1, 0, 1}, {0, 0, 0, 1}};
        for (int turn = 0; turn < 4; turn++) {
            for (int node = 0; node < 4; node++) {
                Bench.due("halted(" + node + ") ahead of TURN " + turn, x.halted(node), want[turn][node]);
            }
            x.run(1);
        }
    }

    private static void haltedRefused() {
        Bench.sentence("halted .. BAD: none such");
        VertexLanguage x = full(3);
        Bench.due("halted(0)", x.halted(0), 1);
        Bench.due("halted(2)", x.halted(2), 1);
        for (int wrong : new int[] {-1, 3, 4, 39, 40, 41, MIN, MAX}) {
            Bench.due("halted(" + wrong + ")", x.halted(wrong), -1);
        }
        for (int wrong : BEHIND_FOUR) {
            Twins.untouched("halted(" + wrong + ")", Twins::running, y -> y.halted(wrong), -1);
        }
        Twins.untouched("halted(0)", Twins.withoutRun(), y -> y.halted(0), -1);
        Bench.due("halted(39) of 40", full(40).halted(39), 1);
        Bench.due("halted(40) of 40", full(40).halted(40), -1);
    }

    // ---- all of them

    private static void smallerBehindLarger() {
        Bench.sentence("none such (what a larger program or graph left)");
        VertexLanguage x = full(3);
        x.nodes(2);
        x.begin(1);
        Bench.due("state(2, 0)", x.state(2, 0), 0);
        Bench.due("message(2, 1)", x.message(2, 1), 0);
        Bench.due("messages(2, 1)", x.messages(2, 1), -1);
        Bench.due("halted(2)", x.halted(2), -1);
        Bench.due("halted(1)", x.halted(1), 0);
        Bench.read(x, "node a:int=3;fold f:sum;global g:sum;start{}round{}");
        x.begin(1);
        Bench.due("state(0, 0)", x.state(0, 0), 3);
        Bench.due("state(0, 1)", x.state(0, 1), 0);
        Bench.due("message(0, 1)", x.message(0, 1), 0);
        Bench.due("messages(0, 1)", x.messages(0, 1), -1);
        Bench.due("global(1)", x.global(1), 0);
        told(x, 0, 0, 0, 0, 0, 0, 0, 0, 0, 0);
    }

    private static void readingChangesNothing() {
        Bench.sentence("told, state, message, messages, global, halted, print (and nothing changes)");
        VertexLanguage z = new VertexLanguage();
        Twins.running(z);
        for (int what = 0; what < 10; what++) {
            int w = what;
            Twins.untouched("told(" + what + ")", Twins::running, x -> x.told(w), z.told(what));
        }
        Twins.untouched("state(1, 0)", Twins::running, x -> x.state(1, 0), z.state(1, 0));
        Twins.untouched("message(1, 1)", Twins::running, x -> x.message(1, 1), z.message(1, 1));
        Twins.untouched("messages(1, 1)", Twins::running, x -> x.messages(1, 1), z.messages(1, 1));
        Twins.untouched("global(0)", Twins::running, x -> x.global(0), z.global(0));
        Twins.untouched("halted(2)", Twins::running, x -> x.halted(2), z.halted(2));
        Twins.untouched("print(-1)", Twins::running, x -> x.print(-1), z.print(-1));
        Twins.untouched("print(0)", Twins::running, x -> x.print(0), 'c');
        Twins.untouched("print(-2)", Twins.everywhere(), x -> x.print(-2), -1);
        Twins.untouched("print(4000)", Twins.everywhere(), x -> x.print(4000), -1);
        Twins.untouched("print(0)", Twins.withoutProgram(), x -> x.print(0), -1);
    }
}
