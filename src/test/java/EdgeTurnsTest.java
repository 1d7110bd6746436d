/** The edges of RUNS and TURNS, and of promises 12 and 13, begin and run. */
public final class EdgeTurnsTest {
    private static final int[] FAR = {Integer.MIN_VALUE, -1000000, 1000000, Integer.MAX_VALUE};

    private EdgeTurnsTest() { }

    public static void main(String[] args) {
        beginsAsTold();
        beginsWithoutMessages();
        beginsAgain();
        beginTakesAnySeed();
        beginRefused();
        beginLeavesTheRest();
        startThenRound();
        risingNumbers();
        statesAtOnce();
        messagesInTheNextTurn();
        messagesOnce();
        globalsInTheNextTurn();
        sentAlong();
        sentAgainst();
        sentByRisingArcs();
        sentWithThatArc();
        sentOverNoArc();
        has();
        numbersOfANode();
        haltEndsWhatItDoes();
        haltedDoNothing();
        messagesWake();
        onlyMessagesWake();
        ended();
        notEndedWithMessages();
        notEndedAwake();
        turnsTaken();
        turnsRefused();
        turnsTillEnded();
        noRun();
        failedTurn();
        Bench.finish();
    }

    private static void told(VertexLanguage x, int... want) {
        for (int what = 0; what < want.length; what++) {
            Bench.due("told(" + what + ")", x.told(what), want[what]);
        }
    }

    // ---- a RUN begins

    private static void beginsAsTold() {
        Bench.sentence("A RUN begins with a seed: all states as told .. nobody halted, TURN 0");
        VertexLanguage x = Edge.begun("node a:int=2147483647;node b:int=-2147483647;node c:bool=true;node d:bool=false;node e:int=0;"
            + "node f:int=-0;node g:int=7;node h:bool=true;start{a=1;c=false;}round{}", 40);
        int[] want = {Integer.MAX_VALUE, -Integer.MAX_VALUE, 1, 0, 0, 0, 7, 1};
        for (int node = 0; node < 40; node += 13) {
            for (int k = 0; k < 8; k++) {
                Bench.due("state(" + node + ", " + k + ")", x.state(node, k), want[k]);
            }
        }
        for (int node = 0; node < 40; node++) {
            Bench.due("halted(" + node + ")", x.halted(node), 0);
        }
        told(x, 0, 0, 0, 0, 0, 0, 0, 0, 0, 0);
    }

    private static void beginsWithoutMessages() {
        Bench.sentence("A RUN begins .. no messages");
        VertexLanguage x = Edge.begun("node s:bool=true;node t:int=5;node u:int=5;fold f:sum;global g:most;start{s=has f;t=f;u=g;}round{}",
            2, 0, 1);
        Bench.due("told(2)", x.told(2), 0);
        Bench.due("messages(1, 0)", x.messages(1, 0), 0);
        x.run(1);
        Bench.due("has f", x.state(1, 0), 0);
        Bench.due("f", x.state(1, 1), 0);
        Bench.due("g", x.state(1, 2), Integer.MIN_VALUE);
    }

    private static void beginsAgain() {
        Bench.sentence("A RUN begins (again: nothing of the one before is left)");
        for (int turns = 1; turns <= 3; turns++) {
            VertexLanguage x = Edge.begun("node n:int=4;node b:bool=false;fold f:sum;global g:sum;"
                + "start{n=n+1;b=true;send f 3 along;give g 8;}round{n=n*2;send f n along;if id==0{halt;}n=n/(2-turn);}",
                2, 0, 1, 1, 0);
            x.run(turns);
            Bench.due("begin(1)", x.begin(1), 1);
            told(x, 0, 0, 0, 0, 0, 0, 0, 0, 0, 0);
            Bench.due("state(0, 0)", x.state(0, 0), 4);
            Bench.due("state(1, 1)", x.state(1, 1), 0);
            Bench.due("message(1, 0)", x.message(1, 0), 0);
            Bench.due("messages(1, 0)", x.messages(1, 0), 0);
            Bench.due("global(0)", x.global(0), 0);
            Bench.due("halted(0)", x.halted(0), 0);
            Bench.due("undo()", x.undo(), -2);
            Bench.due("run(1)", x.run(1), 1);
            Bench.due("state(0, 0)", x.state(0, 0), 5);
        }
    }

    private static void beginTakesAnySeed() {
        Bench.sentence("A RUN begins: 1");
        for (int seed : new int[] {0, 1, -1, FAR[0], FAR[1], FAR[2], FAR[3]}) {
            VertexLanguage x = Edge.reading("start{}round{}");
            Bench.due("begin(" + seed + ")", x.begin(seed), 1);
            Bench.due("told(0)", x.told(0), 0);
        }
    }

    private static void beginRefused() {
        Bench.sentence("begin .. BAD: no program");
        for (int seed : new int[] {0, 1, -1, FAR[0], FAR[3]}) {
            Twins.untouched("begin(" + seed + ")", Twins.withoutProgram(), x -> x.begin(seed), -1);
        }
    }

    private static void beginLeavesTheRest() {
        Bench.sentence("A RUN begins (the program, the graph and the tape stay)");
        VertexLanguage x = new VertexLanguage();
        Twins.early(x);
        int printed = x.print(-1);
        x.begin(3);
        Bench.due("print(-1)", x.print(-1), printed);
        Bench.due("count(5)", x.count(5), 4);
        Bench.due("count(6)", x.count(6), 7);
        Bench.due("weight(6, 3, 106)", x.weight(6, 3, 106), 106);
        Bench.due("name()", x.name(), 101);
    }

    // ---- a TURN

    private static void startThenRound() {
        Bench.sentence("does 'start' (TURN 0) or 'round'");
        VertexLanguage x = Edge.begun("node n:int=0;node m:int=0;start{n=n+1;m=turn+100;}round{n=n+10;m=turn+200;}", 2);
        for (int turn = 0; turn < 5; turn++) {
            Bench.due("run(1)", x.run(1), 1);
            Bench.due("state(1, 0)", x.state(1, 0), 1 + 10 * turn);
            Bench.due("state(1, 1)", x.state(1, 1), turn == 0 ? 100 : 200 + turn);
        }
        for (int turn = 4; turn >= 0; turn--) {
            Bench.due("undo()", x.undo(), turn);
        }
        Bench.due("run(1)", x.run(1), 1);
        Bench.due("start again", x.state(1, 0), 1);
    }

    private static void risingNumbers() {
        Bench.sentence("nodes by rising number .. folded in the order in which it was sent");
        VertexLanguage x = Edge.begun("fold f:first;global g:first;start{send f id+1 along;give g id+1;}round{if id>2{"
            + "send f id+1 along;give g id+1;}}", 6, 5, 0, 4, 0, 3, 0, 2, 0, 1, 0);
        x.run(1);
        Bench.due("first of 1 .. 5", x.message(0, 0), 2);
        Bench.due("first given", x.global(0), 1);
        x.run(1);
        Bench.due("first of 3 .. 5", x.message(0, 0), 4);
        Bench.due("first given by 3 .. 5", x.global(0), 4);
    }

    private static void statesAtOnce() {
        Bench.sentence("What it reads of folds and globals is .. in the turn before (of states what it has)");
        VertexLanguage x = Edge.begun("node n:int=1;node m:int=0;start{n=n+1;m=n*10;n=n+1;}round{}", 1);
        x.run(1);
        Bench.due("state(0, 0)", x.state(0, 0), 3);
        Bench.due("state(0, 1)", x.state(0, 1), 20);
    }

    private static void messagesInTheNextTurn() {
        Bench.sentence("What it reads of folds .. is what came .. in the turn before");
        VertexLanguage x = Edge.begun("node n:int=0;node m:int=0;fold f:sum;start{send f 5+id along;n=f;}"
            + "round{n=f;send f 50+id along;m=f;}", 2, 0, 0, 0, 1);
        x.run(1);
        Bench.due("nothing yet", x.state(0, 0), 0);
        Bench.due("under way", x.message(0, 0), 5);
        x.run(1);
        Bench.due("what came", x.state(0, 0), 5);
        Bench.due("still what came, behind the send", x.state(0, 1), 5);
        Bench.due("what came to 1, not what 0 sent ahead of it", x.state(1, 0), 5);
        Bench.due("under way", x.message(1, 0), 50);
    }

    private static void messagesOnce() {
        Bench.sentence("what came, was given, in the turn before (not earlier)");
        VertexLanguage x = Edge.begun("node n:int=0;node m:int=0;fold f:sum;global g:sum;start{send f 5 along;give g 7;}"
            + "round{n=f;m=g;}", 1, 0, 0);
        x.run(2);
        Bench.due("f", x.state(0, 0), 5);
        Bench.due("g", x.state(0, 1), 7);
        Bench.due("told(2)", x.told(2), 0);
        x.run(1);
        Bench.due("f", x.state(0, 0), 0);
        Bench.due("g", x.state(0, 1), 0);
        // A node that does nothing does not keep what was given for later.
        x = Edge.begun("node m:int=0;fold f:sum;global g:sum;start{if id==1{halt;}give g 7;}"
            + "round{m=g;if id==0&&turn==2{send f 1 along;}}", 2, 0, 1);
        x.run(3);
        Bench.due("1 did nothing", x.state(1, 0), 0);
        x.run(1);
        Bench.due("given three turns before", x.state(1, 0), 0);
        Bench.due("it was woken", x.halted(1), 0);
    }

    private static void globalsInTheNextTurn() {
        Bench.sentence("What it reads of .. globals is what .. was given, in the turn before");
        VertexLanguage x = Edge.begun("node n:int=0;node m:int=0;global g:sum;start{give g id+1;n=g;}round{n=g;give g 100;m=g;}", 3);
        x.run(1);
        Bench.due("nothing yet", x.state(2, 0), 0);
        Bench.due("global(0)", x.global(0), 6);
        x.run(1);
        Bench.due("what was given", x.state(0, 0), 6);
        Bench.due("still that behind the give", x.state(2, 1), 6);
        Bench.due("global(0)", x.global(0), 300);
    }

    private static void sentAlong() {
        Bench.sentence("send: for each arc from the node (along) .. goes to the arc's other end");
        VertexLanguage x = Edge.begun("fold f:sum;start{send f id+1 along;}round{}", 4, 0, 1, 1, 2, 0, 2, 3, 3, 0, 1);
        x.run(1);
        int[] sums = {0, 2, 3, 4};
        int[] times = {0, 2, 2, 1};
        for (int node = 0; node < 4; node++) {
            Bench.due("message(" + node + ", 0)", x.message(node, 0), sums[node]);
            Bench.due("messages(" + node + ", 0)", x.messages(node, 0), times[node]);
        }
        Bench.due("told(2)", x.told(2), 5);
    }

    private static void sentAgainst() {
        Bench.sentence("send: for each arc .. to it (against) .. goes to the arc's other end");
        VertexLanguage x = Edge.begun("fold f:sum;start{send f id+1 against;}round{}", 4, 0, 1, 1, 2, 0, 2, 3, 3, 0, 1);
        x.run(1);
        int[] sums = {2 + 2 + 3, 3, 0, 4};
        int[] times = {3, 1, 0, 1};
        for (int node = 0; node < 4; node++) {
            Bench.due("message(" + node + ", 0)", x.message(node, 0), sums[node]);
            Bench.due("messages(" + node + ", 0)", x.messages(node, 0), times[node]);
        }
        Bench.due("told(2)", x.told(2), 5);
    }

    private static void sentByRisingArcs() {
        Bench.sentence("for each arc .. by rising numbers");
        for (String way : new String[] {"along", "against"}) {
            VertexLanguage x = new VertexLanguage();
            Bench.read(x, "column w;fold f:first;start{send f arc.w " + way + ";}round{}");
            x.nodes(2);
            for (int arc = 0; arc < 6; arc++) {
                x.arc(arc % 2, 1 - arc % 2);
                x.weight(arc, 0, 100 - arc);
            }
            x.begin(1);
            x.run(1);
            Bench.due("to 1, " + way, x.message(1, 0), way.equals("along") ? 100 : 99);
            Bench.due("to 0, " + way, x.message(0, 0), way.equals("along") ? 99 : 100);
        }
        // A draw in the exp is drawn anew for each arc, in their order.
        VertexLanguage x = Edge.begun("node a:int=0;node b:int=0;fold f:first;fold h:sum;start{if id==0{send f draw(1000) along;}}round{}",
            3, 0, 1, 0, 2);
        VertexLanguage y = Edge.begun("node a:int=0;node b:int=0;start{a=draw(1000);b=draw(1000);}round{}", 3);
        x.run(1);
        y.run(1);
        Bench.due("over arc 0", x.message(1, 0), y.state(0, 0));
        Bench.due("over arc 1", x.message(2, 0), y.state(0, 1));
    }

    private static void sentWithThatArc() {
        Bench.sentence("the exp, with that arc's columns");
        VertexLanguage x = new VertexLanguage();
        Bench.read(x, "column a;column b;column c;column d;fold f:sum;fold h:sum;"
            + "start{send f arc.a*1000+arc.b*100+arc.c*10+arc.d along;send h arc.a against;}round{}");
        x.nodes(3);
        x.arc(0, 1);
        x.arc(0, 2);
        x.arc(2, 1);
        for (int arc = 0; arc < 3; arc++) {
            for (int column = 0; column < 4; column++) {
                x.weight(arc, column, arc + column + 1);
            }
        }
        x.begin(1);
        x.run(1);
        Bench.due("message(1, 0)", x.message(1, 0), 1234 + 3456);
        Bench.due("message(2, 0)", x.message(2, 0), 2345);
        Bench.due("message(0, 1)", x.message(0, 1), 1 + 2);
        Bench.due("message(2, 1)", x.message(2, 1), 3);
    }

    private static void sentOverNoArc() {
        Bench.sentence("send: for each arc (where there is none: nothing)");
        VertexLanguage x = Edge.begun("node n:int=0;fold f:sum;start{n=1;send f 1/0 along;send f draw(0) against;n=2;}round{}", 1);
        Bench.due("the exp is not worked out: run(1)", x.run(1), 1);
        Bench.due("state(0, 0)", x.state(0, 0), 2);
        Bench.due("told(2)", x.told(2), 0);
        Bench.due("STEPS", x.told(9), 6);
    }

    private static void has() {
        Bench.sentence("has: whether there is something");
        VertexLanguage x = Edge.begun("node a:bool=false;node b:bool=false;fold f:sum;fold h:sum;"
            + "start{if id==0{send f 0 along;}}round{a=has f;b=has h;}", 2, 0, 1);
        x.run(2);
        Bench.due("has f: a message of 0 came", x.state(1, 0), 1);
        Bench.due("has h: none came", x.state(1, 1), 0);
        Bench.due("has f of 0", x.state(0, 0), 0);
        x.run(1);
        Bench.due("has f: none came", x.state(1, 0), 0);
    }

    private static void numbersOfANode() {
        Bench.sentence("id its number, turn the TURN, degree, indegree how many arcs go from, to it");
        VertexLanguage x = new VertexLanguage();
        Bench.read(x, "node a:int=0;node b:int=0;node c:int=0;node d:int=0;node e:int=0;"
            + "start{}round{a=id;b=turn;c=nodes;d=degree;e=indegree;}");
        x.nodes(40);
        for (int arc = 0; arc < 120; arc++) {
            x.arc(39, arc < 100 ? 39 : 0);
        }
        x.begin(1);
        x.run(100);
        x.run(3);
        int[] last = {39, 102, 40, 120, 100};
        int[] first = {0, 102, 40, 0, 20};
        for (int k = 0; k < 5; k++) {
            Bench.due("state(39, " + k + ")", x.state(39, k), last[k]);
            Bench.due("state(0, " + k + ")", x.state(0, k), first[k]);
        }
    }

    // ---- halting and waking

    private static void haltEndsWhatItDoes() {
        Bench.sentence("halt ends what the node does in this turn; it has halted then");
        VertexLanguage x = Edge.begun("node n:int=0;fold f:sum;global g:sum;start{n=1;if id==0{loop 3{loop 3{n=n+1;if n==4{halt;}}}}"
            + "n=n+100;send f 1 along;give g 1;}round{}", 2, 0, 1, 1, 0);
        x.run(1);
        Bench.due("state(0, 0)", x.state(0, 0), 4);
        Bench.due("halted(0)", x.halted(0), 1);
        Bench.due("state(1, 0)", x.state(1, 0), 101);
        Bench.due("halted(1)", x.halted(1), 0);
        Bench.due("messages(0, 0)", x.messages(0, 0), 1);
        Bench.due("messages(1, 0)", x.messages(1, 0), 0);
        Bench.due("global(0)", x.global(0), 1);
        // What it did ahead of it stays done.
        x = Edge.begun("node n:int=0;fold f:sum;global g:sum;start{n=9;send f 2 along;give g 3;halt;n=1/0;}round{}", 2, 0, 1);
        Bench.due("run(1)", x.run(1), 1);
        Bench.due("state(0, 0)", x.state(0, 0), 9);
        Bench.due("message(1, 0)", x.message(1, 0), 2);
        Bench.due("global(0)", x.global(0), 6);
    }

    private static void haltedDoNothing() {
        Bench.sentence("each that has not halted or to which messages came");
        VertexLanguage x = Edge.begun("node n:int=0;start{if id==1{halt;}}round{n=n+1;}", 2);
        x.run(10);
        Bench.due("state(0, 0)", x.state(0, 0), 9);
        Bench.due("state(1, 0)", x.state(1, 0), 0);
        Bench.due("halted(1)", x.halted(1), 1);
        Bench.due("STEPS of 0 alone", x.told(9), 4);
    }

    private static void messagesWake() {
        Bench.sentence("each .. to which messages came in the turn before (it has not halted then)");
        VertexLanguage x = Edge.begun("node n:int=0;fold f:sum;fold h:some;start{if id>0{halt;}}"
            + "round{n=n+1;if turn==1{send f 0 along;}if turn==4&&id==0{send h false against;}}", 3, 0, 1, 2, 0);
        x.run(2);
        Bench.due("1 has halted still, the message is under way", x.halted(1), 1);
        Bench.due("told(3)", x.told(3), 2);
        x.run(1);
        Bench.due("1 was woken", x.state(1, 0), 1);
        Bench.due("it has not halted then", x.halted(1), 0);
        x.run(1);
        Bench.due("it goes on without messages", x.state(1, 0), 2);
        Bench.due("2 has not", x.state(2, 0), 0);
        x.run(2);
        Bench.due("2 was woken by another fold", x.state(2, 0), 1);
        Bench.due("told(3)", x.told(3), 0);
        // One that is woken may halt again.
        x = Edge.begun("node n:int=0;fold f:sum;start{if id==0{send f 1 along;}halt;}round{n=n+1;halt;}", 2, 0, 1);
        x.run(2);
        Bench.due("state(1, 0)", x.state(1, 0), 1);
        Bench.due("halted(1)", x.halted(1), 1);
        Bench.due("state(0, 0)", x.state(0, 0), 0);
    }

    private static void onlyMessagesWake() {
        Bench.sentence("to which messages came (globals wake nobody)");
        VertexLanguage x = Edge.begun("node n:int=0;fold f:sum;global g:sum;start{if id==1{halt;}give g 5;send f 1 along;}"
            + "round{n=n+1;give g 5;}", 2, 0, 0);
        x.run(5);
        Bench.due("state(1, 0)", x.state(1, 0), 0);
        Bench.due("halted(1)", x.halted(1), 1);
        Bench.due("state(0, 0)", x.state(0, 0), 4);
    }

    // ---- ENDED

    private static void ended() {
        Bench.sentence("The RUN has ENDED, when no message is under way and all have halted");
        VertexLanguage x = Edge.begun("global g:sum;start{give g 1;halt;}round{}", 40);
        Bench.due("told(1) at first", x.told(1), 0);
        Bench.due("run(1)", x.run(1), 1);
        Bench.due("told(1)", x.told(1), 1);
        Bench.due("told(3)", x.told(3), 40);
        Bench.due("run(100)", x.run(100), 0);
        Bench.due("told(0)", x.told(0), 1);
        Bench.due("what was given stays: global(0)", x.global(0), 40);
        Bench.due("undo()", x.undo(), 0);
        Bench.due("told(1)", x.told(1), 0);
    }

    private static void notEndedWithMessages() {
        Bench.sentence("ENDED, when no message is under way");
        VertexLanguage x = Edge.begun("fold f:sum;start{if id==0{send f 1 along;}halt;}round{halt;}", 2, 0, 1);
        x.run(1);
        Bench.due("told(3)", x.told(3), 2);
        Bench.due("told(2)", x.told(2), 1);
        Bench.due("told(1)", x.told(1), 0);
        Bench.due("run(100)", x.run(100), 1);
        Bench.due("told(1)", x.told(1), 1);
    }

    private static void notEndedAwake() {
        Bench.sentence("ENDED, when .. all have halted");
        VertexLanguage x = Edge.begun("start{if id<39{halt;}}round{if turn==7{halt;}}", 40);
        x.run(1);
        Bench.due("told(3)", x.told(3), 39);
        Bench.due("told(1)", x.told(1), 0);
        Bench.due("run(100)", x.run(100), 7);
        Bench.due("told(3)", x.told(3), 40);
        Bench.due("told(1)", x.told(1), 1);
    }

    // ---- promise 13

    private static void turnsTaken() {
        Bench.sentence("So many TURNS (1 .. 100): how many were done in this call");
        for (int turns : new int[] {1, 2, 50, 99, 100}) {
            VertexLanguage x = Edge.begun("node n:int=0;start{n=1;}round{n=n+1;}", 2);
            Bench.due("run(" + turns + ")", x.run(turns), turns);
            Bench.due("told(0)", x.told(0), turns);
            Bench.due("state(1, 0)", x.state(1, 0), turns);
            Bench.due("run(" + turns + ") again", x.run(turns), turns);
            Bench.due("told(0)", x.told(0), 2 * turns);
        }
    }

    private static void turnsRefused() {
        Bench.sentence("run .. BAD: .. another number");
        for (int turns : new int[] {0, 101, -1, 102, -100, 256, FAR[0], FAR[1], FAR[2], FAR[3]}) {
            Twins.untouched("run(" + turns + ")", Twins.everywhere(), x -> x.run(turns), -1);
            VertexLanguage x = Edge.begun("start{halt;}round{}", 1);
            x.run(1);
            Bench.due("ENDED: run(" + turns + ")", x.run(turns), -1);
        }
    }

    private static void turnsTillEnded() {
        Bench.sentence("So many TURNS .. or till it has ENDED: how many were done in this call");
        for (int last : new int[] {0, 1, 5, 98, 99}) {
            String text = "start{if " + last + "==0{halt;}}round{if turn==" + last + "{halt;}}";
            VertexLanguage x = Edge.begun(text, 2);
            Bench.due("run(100)", x.run(100), last + 1);
            Bench.due("told(1)", x.told(1), 1);
            Bench.due("run(1)", x.run(1), 0);
            Bench.due("run(100)", x.run(100), 0);
            Bench.due("told(0)", x.told(0), last + 1);
        }
        VertexLanguage x = Edge.begun("start{}round{if turn==100{halt;}}", 1);
        Bench.due("run(100)", x.run(100), 100);
        Bench.due("told(1)", x.told(1), 0);
        Bench.due("run(100)", x.run(100), 1);
        Twins.untouched("run(1) of an ENDED one", y -> {
            Bench.read(y, "node n:int=1;global g:sum;start{n=2;give g 3;halt;}round{}");
            y.begin(1);
            y.run(1);
        }, y -> y.run(1), 0);
    }

    private static void noRun() {
        Bench.sentence("run .. BAD: no RUN");
        for (int turns : new int[] {1, 2, 100}) {
            Twins.untouched("run(" + turns + ")", Twins.withoutRun(), x -> x.run(turns), -1);
        }
    }

    private static void failedTurn() {
        Bench.sentence("FAILED: one failed (those before it are done)");
        for (int turn = 0; turn < 9; turn++) {
            VertexLanguage x = Edge.begun("node n:int=0;start{n=1/(" + turn + "-turn)*0+1;}round{n=n+1;let a=1/(" + turn + "-turn);}", 2);
            Bench.due("run(100)", x.run(100), -4);
            told(x, turn, 0, 0, 0, 1, 0);
            Bench.due("state(0, 0)", x.state(0, 0), turn);
            Bench.due("state(1, 0)", x.state(1, 0), turn);
            Bench.due("told(8)", x.told(8), Math.min(turn, 6));
        }
        // Those that are asked for end ahead of it.
        VertexLanguage x = Edge.begun("start{}round{let a=1/(5-turn);}", 1);
        Bench.due("run(5)", x.run(5), 5);
        Bench.due("told(4)", x.told(4), 0);
        Bench.due("run(1)", x.run(1), -4);
        Bench.due("told(4)", x.told(4), 1);
    }
}
