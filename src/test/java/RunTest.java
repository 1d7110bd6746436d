/** Promises 12 to 15: begin, run, undo, told. */
public final class RunTest {
    private RunTest() { }

    public static void main(String[] args) {
        beginning();
        turns();
        waking();
        ending();
        draws();
        failures();
        stepsOfExps();
        stepsOfStatements();
        stepLimit();
        whereStepsRunOut();
        undoing();
        undoingBehindFailures();
        operators();
        shortCuts();
        choices();
        loops();
        longPrograms();
        failingOften();
        Bench.finish();
    }

    private static VertexLanguage with(int nodes, String text) {
        VertexLanguage x = new VertexLanguage();
        int answer = Bench.read(x, text);
        Bench.due("program() of " + text + " is good", answer >= 0 ? 1 : answer, 1);
        x.nodes(nodes);
        return x;
    }

    private static void told(VertexLanguage x, String when, int... want) {
        for (int what = 0; what < want.length; what++) {
            Bench.due(when + ": told(" + what + ")", x.told(what), want[what]);
        }
    }

    private static void beginning() {
        VertexLanguage x = with(2, "node n:int=-5;node m:bool=true;fold f:least;global g:most;start{n=1;m=false;"
            + "give g 3;halt;}round{}");
        Bench.due("run() without begin()", x.run(1), -1);
        Bench.due("begin(MIN)", x.begin(Integer.MIN_VALUE), 1);
        told(x, "begun", 0, 0, 0, 0, 0, 0, 0, 0, 0, 0);
        Bench.due("told(-1)", x.told(-1), -1);
        Bench.due("told(10)", x.told(10), -1);
        Bench.due("state as told", x.state(1, 0), -5);
        Bench.due("state as told", x.state(1, 1), 1);
        Bench.due("run(0)", x.run(0), -1);
        Bench.due("run(101)", x.run(101), -1);
        Bench.due("run(-1)", x.run(-1), -1);
        Bench.due("run(MAX)", x.run(Integer.MAX_VALUE), -1);
        Bench.due("run(100)", x.run(100), 1);
        told(x, "ended", 1, 1, 0, 2, 0, 0, 0, 0, 1, 14);
        Bench.due("begin() again", x.begin(0), 1);
        told(x, "begun again", 0, 0, 0, 0, 0, 0, 0, 0, 0, 0);
        Bench.due("state as told again", x.state(0, 0), -5);
        Bench.due("global again", x.global(0), Integer.MIN_VALUE);
        Bench.due("halted again", x.halted(0), 0);
    }

    private static void turns() {
        // start in TURN 0, round in all others; states are seen at once, messages and globals a TURN later.
        VertexLanguage x = with(3, "node n:int=0;node s:int=0;node t:int=0;fold f:sum;global g:sum;"
            + "start{n=100+turn;send f id+1 along;give g 10;s=f;t=g;}"
            + "round{n=n+turn;s=f*10+g;t=turn*1000+nodes*100+degree*10+indegree;send f id+1 along;give g n;}");
        x.arc(0, 1);
        x.arc(0, 2);
        x.arc(1, 2);
        x.arc(2, 2);
        x.begin(0);
        Bench.due("run(1)", x.run(1), 1);
        Bench.due("n", x.state(2, 0), 100);
        Bench.due("nothing came: sum", x.state(2, 1), 0);
        Bench.due("nothing given: sum", x.state(2, 2), 0);
        Bench.due("messages under way", x.told(2), 4);
        Bench.due("to 2 from 0, 1, 2", x.message(2, 0), 6);
        Bench.due("global", x.global(0), 30);
        Bench.due("run(2)", x.run(2), 2);
        Bench.due("the TURN", x.told(0), 3);
        Bench.due("n", x.state(0, 0), 103);
        Bench.due("f and g", x.state(2, 1), 60 + 303);
        Bench.due("f and g", x.state(1, 1), 10 + 303);
        Bench.due("f and g", x.state(0, 1), 303);
        Bench.due("facts of 0", x.state(0, 2), 2000 + 300 + 20);
        Bench.due("facts of 2", x.state(2, 2), 2000 + 300 + 10 + 3);
        Bench.due("run(100)", x.run(100), 100);
        Bench.due("the TURN", x.told(0), 103);
    }

    private static void waking() {
        // 1 has halted, is woken by a message of 0, stays awake for want of a halt, and halts when turn is 4.
        VertexLanguage x = with(2, "node n:int=0;fold f:sum;start{if id==1{halt;}}"
            + "round{n=n+1;if id==0&&turn==1{send f 1 along;}if id==1&&turn>=4{halt;}if id==0&&turn>1{halt;n=50;}}");
        x.arc(0, 1);
        x.begin(0);
        x.run(1);
        Bench.due("1 has halted", x.halted(1), 1);
        x.run(1);
        Bench.due("1 did nothing", x.state(1, 0), 0);
        Bench.due("1 has halted still", x.halted(1), 1);
        told(x, "a message is under way", 2, 0, 1, 1);
        x.run(1);
        Bench.due("1 was woken", x.state(1, 0), 1);
        Bench.due("1 has not halted then", x.halted(1), 0);
        Bench.due("0 has", x.halted(0), 1);
        Bench.due("halt ends what it does", x.state(0, 0), 2);
        x.run(1);
        Bench.due("1 is awake without messages", x.state(1, 0), 2);
        Bench.due("0 did nothing", x.state(0, 0), 2);
        Bench.due("till it has ENDED", x.run(50), 1);
        told(x, "ended", 5, 1, 0, 2);
        Bench.due("nothing is left to do", x.run(50), 0);
    }

    private static void ending() {
        // All have halted, but a message is under way: not ENDED. It goes back and forth twice.
        VertexLanguage x = with(2, "node n:int=3;fold f:most;start{if id==0{send f n along;}halt;}"
            + "round{if f>0{send f f-1 along;send f f-1 against;}halt;}");
        x.arc(0, 1);
        x.begin(0);
        x.run(1);
        told(x, "all have halted", 1, 0, 1, 2);
        Bench.due("run(100)", x.run(100), 4);
        told(x, "ended", 5, 1, 0, 2);
        Bench.due("undo()", x.undo(), 4);
        Bench.due("not ENDED", x.told(1), 0);
        Bench.due("ENDED again", x.run(100), 1);
    }

    private static int mix(int seed, int node, int turn, int drawn, int n) {
        int h = seed;
        for (int v : new int[] {node, turn, drawn}) {
            h = (h ^ v) * 0x9E3779B1;
            h ^= h >>> 15;
        }
        return Integer.remainderUnsigned(h, n);
    }

    private static void draws() {
        VertexLanguage x = with(3, "node a:int=0;node b:int=0;node c:int=0;start{a=draw(2147483647);b=draw(7);c=draw(1);}"
            + "round{a=draw(2147483647);if id==1{b=draw(10)*100+draw(10);}c=draw(1000);}");
        for (int seed : new int[] {0, 1, -1, 12345, Integer.MIN_VALUE}) {
            x.begin(seed);
            x.run(1);
            for (int node = 0; node < 3; node++) {
                Bench.due("first draw", x.state(node, 0), mix(seed, node, 0, 0, Integer.MAX_VALUE));
                Bench.due("second draw", x.state(node, 1), mix(seed, node, 0, 1, 7));
                Bench.due("draw(1)", x.state(node, 2), 0);
            }
            x.run(2);
            Bench.due("TURN 2", x.state(2, 0), mix(seed, 2, 2, 0, Integer.MAX_VALUE));
            Bench.due("TURN 2 of 1", x.state(1, 1), mix(seed, 1, 2, 1, 10) * 100 + mix(seed, 1, 2, 2, 10));
            Bench.due("TURN 2 of 1, last", x.state(1, 2), mix(seed, 1, 2, 3, 1000));
            Bench.due("TURN 2 of 2, last", x.state(2, 2), mix(seed, 2, 2, 1, 1000));
            int before = x.state(1, 0);
            x.undo();
            x.run(1);
            Bench.due("drawn again as before", x.state(1, 0), before);
        }
    }

    private static void failing(String text, int turn, int what, int node, String token) {
        VertexLanguage x = with(3, text);
        x.begin(1);
        Bench.due("run() of " + text, x.run(100), -4);
        told(x, text, turn, 0, 0, 0, what, node, text.indexOf(token), turn, Math.min(6, turn));
        Bench.due("all is as before: state", x.state(0, 0), turn);
        Bench.due("all is as before: global", x.global(0), 0);
        Bench.due("it fails again", x.run(1), -4);
    }

    private static void failures() {
        String told = "node n:int=0;global g:sum;";
        String end = "}round{}";
        failing(told + "start{n=5;give g 1;n=7 / ( id - 2 );" + end, 0, 1, 2, "/");
        failing(told + "start{n=5;n=7 % n;n=7 %(id*0);" + end, 0, 1, 0, "%(");
        neverFails(told + "start{halt;n=1/0;" + end);
        failing(told + "start{n=1;}round{n=n+1;if turn==4{n=draw(id-1);}}", 4, 2, 0, "draw");
        failing(told + "start{n=1;}round{n=n+1;if id==1&&turn==9{n=draw ( n-n );}}", 9, 2, 1, "draw");
        failing(told + "start{if false&&1/0==1{}n=if(true,1,1/0);if true||1%0==0{n=0;}give g 3;n=draw(-1);" + end,
            0, 2, 0, "draw");
        VertexLanguage x = with(1, "node n:int=0;start{n=1/2147483647;n=(-2147483647-1)/(-1);}round{n=n%(-1)-7/2*10+7%-4;"
            + "n=n+-7/2*100+-7%4*1000;}");
        x.begin(1);
        Bench.due("no FAILURE", x.run(2), 2);
        Bench.due("as in Java", x.state(0, 0), -30 + 3 - 300 - 3000);
    }

    private static void neverFails(String text) {
        VertexLanguage x = with(3, text);
        x.begin(1);
        Bench.due("run() of " + text, x.run(100), 1);
        Bench.due("told(4) of " + text, x.told(4), 0);
    }

    private static void steps(int want, String block) {
        VertexLanguage x = with(1, "column w;node i:int=1;node b:bool=true;fold f:sum;global g:sum;start{" + block
            + "}round{}");
        x.arc(0, 0);
        x.arc(0, 0);
        x.begin(1);
        Bench.due("run(1) of " + block, x.run(1), 1);
        Bench.due("STEPS of " + block, x.told(9), want);
    }

    private static void stepsOfExps() {
        steps(0, "");
        steps(2, "i=1;");
        steps(2, "i=((1));");
        steps(3, "i=-1;");
        steps(4, "i=1+1;");
        steps(6, "i=1+1*2;");
        steps(3, "i=draw(1);");
        steps(2, "b=has f;");
        steps(4, "b=i<f;");
        steps(3, "b=!b;");
        steps(3, "b=false&&true;");
        steps(4, "b=true&&true;");
        steps(3, "b=true||true;");
        steps(4, "b=false||true;");
        steps(4, "b=false&&true&&true;");
        steps(5, "b=false&&true||b;");
        steps(4, "i=if(b,1,2+3);");
        steps(6, "i=if(false,1,2+3);");
        steps(7, "i=if(!b,1,2+3);");
    }

    private static void stepsOfStatements() {
        steps(1, "halt;");
        steps(1, "halt;i=1;");
        steps(2, "let a=1;");
        steps(2, "give g 1;");
        steps(2, "if b{}");
        steps(3, "if b{halt;}else{i=1;}");
        steps(5, "if !b{halt;}else{i=1;}");
        steps(1, "loop 0{halt;}");
        steps(4, "loop 3{}");
        steps(10, "loop 3{i=1;}");
        steps(1 + 2 * (1 + 1 + 3), "loop 2{loop 3{}}");
        steps(3, "loop 9{halt;}");
        steps(5, "send f arc.w along;");
        steps(9, "send f arc.w+1 against;");
        VertexLanguage x = with(3, "start{if id==1{halt;}}round{halt;}");
        x.begin(0);
        x.run(1);
        Bench.due("STEPS of all nodes", x.told(9), 13);
        x.run(1);
        Bench.due("STEPS of those that do something", x.told(9), 2);
        x.undo();
        Bench.due("undo() leaves that", x.told(9), 2);
    }

    private static void stepLimit() {
        // A loop of i=1; with 100 repeats: 1 and 3 for each; the rest is filled up with i=1; and halt;
        String full = "loop 100{i=1;}loop 100{i=1;}loop 100{i=1;}loop 31{i=1;}";
        String told = "node i:int=0;start{";
        VertexLanguage x = with(2, told + full + "i=1;halt;}round{}");
        x.begin(1);
        Bench.due("1,000 STEPS", x.run(1), 1);
        Bench.due("1,000 STEPS of two nodes", x.told(9), 2000);
        String text = told + full + "i=1;i=1; halt;}round{}";
        x = with(2, text);
        x.begin(1);
        Bench.due("1,002 STEPS", x.run(1), -4);
        told(x, "1,002 STEPS", 0, 0, 0, 0, 3, 0, text.lastIndexOf("i=1;"), 0, 0, 0);
        text = told + full + "i=1;if id==1{}halt;}round{}";
        x = with(2, text);
        x.begin(1);
        Bench.due("1,003 STEPS", x.run(1), -4);
        told(x, "1,003 STEPS", 0, 0, 0, 0, 3, 0, text.indexOf("if id"), 0, 0, 0);
    }

    /** From 990 STEPS on: which statement, and which FAILURE, it is. */
    private static void outOf(String block, int what, String token) {
        String told = "node i:int=0;node b:bool=true;fold f:sum;start{";
        String full = "loop 100{i=1;}loop 100{i=1;}loop 100{i=1;}loop 28{i=1;}i=1;";
        String text = told + full + block + "}round{}";
        VertexLanguage x = with(1, text);
        x.arc(0, 0);
        x.arc(0, 0);
        x.begin(1);
        Bench.due("run(1) of " + block, x.run(1), -4);
        told(x, block, 0, 0, 0, 0, what, 0, told.length() + full.length() + block.indexOf(token), 0, 0, 0);
    }

    private static void whereStepsRunOut() {
        // 990 are used: 4 * 1 + 328 * 3 + 2.
        outOf("loop 100{}", 3, "loop");
        outOf("loop 5{loop 100{ }}", 3, "loop 100");
        outOf("loop 100{ if b{}}", 3, "loop");
        outOf("loop 100{ i=-i;}", 3, "i=");
        outOf("if b{i=1+2+3+4+5;}", 3, "i=");
        outOf("if 1+2+3+4+5+6==1{i=1;}", 3, "if");
        outOf("send f 1+2+3 along;", 3, "send");
        outOf("send f 1 along;send f 1 against;send f 2 along;", 3, "send f 2");
        outOf("i=-1;send f 1 along;send f 1 against;", 3, "send f 1 against");
        // STEPS come ahead of an operator's own FAILURE.
        outOf("i=1;i=1;i=1;i=1/0;", 1, "/");
        outOf("i=1;i=1;i=-1;i=1/0;", 3, "i=1/0");
        outOf("i=1;i=1;i=1;i=0;i=draw(i);", 3, "i=draw");
        outOf("i=1;i=1;i=0;i=-draw(i);", 2, "draw");
        outOf("i=1;i=1;i=0;b=1/0==1;", 1, "/");
        outOf("i=1;i=1;i=0;b=!b;i=draw(i);", 3, "i=draw");
        outOf("i=1;i=1;i=1;i=1;if !b{}", 3, "if");
    }

    private static void undoing() {
        VertexLanguage x = with(2, "node n:int=0;node m:bool=false;fold f:first;global g:least;start{send f 10 along;give g 5;}"
            + "round{n=n+1;m=!m;send f f+1 along;give g g-1;if turn==8{halt;}}");
        x.arc(0, 1);
        x.arc(1, 0);
        x.begin(3);
        Bench.due("nothing to undo", x.undo(), -2);
        x.run(3);
        Bench.due("three can be undone", x.told(8), 3);
        x.run(6);
        Bench.due("the last six", x.told(8), 6);
        Bench.due("both have halted", x.told(3), 2);
        for (int turn = 8; turn >= 3; turn--) {
            Bench.due("undo()", x.undo(), turn);
            told(x, "TURN " + turn, turn, 0, 2, 0);
            Bench.due("state", x.state(1, 0), turn - 1);
            Bench.due("bool", x.state(1, 1), (turn - 1) % 2);
            Bench.due("message", x.message(0, 0), 10 + turn - 1);
            Bench.due("messages", x.messages(0, 0), 1);
            Bench.due("global", x.global(0), 5 - turn + 1);
            Bench.due("halted", x.halted(0), 0);
            Bench.due("left to undo", x.told(8), turn - 3);
        }
        Bench.due("none is kept", x.undo(), -2);
        Bench.due("still", x.told(0), 3);
        Bench.due("run(2)", x.run(2), 2);
        Bench.due("two can be undone", x.told(8), 2);
        Bench.due("and on", x.run(100), 100);
        Bench.due("six again", x.told(8), 6);
        x.begin(3);
        Bench.due("begin() forgets them", x.undo(), -2);
    }

    private static void undoingBehindFailures() {
        // The TURN that fails takes none of the six away.
        VertexLanguage x = with(1, "node n:int=0;start{}round{n=n+1;n=n/(8-turn)*(8-turn);n=turn;}");
        x.begin(1);
        Bench.due("run(20)", x.run(20), -4);
        told(x, "failed", 8, 0, 0, 0, 1, 0, 35, 8, 6, 16);
        Bench.due("run(20) again", x.run(20), -4);
        for (int turn = 7; turn >= 2; turn--) {
            Bench.due("undo()", x.undo(), turn);
            Bench.due("state", x.state(0, 0), turn - 1);
            Bench.due("the FAILURE stays told", x.told(4), 1);
            Bench.due("its TURN too", x.told(7), 8);
        }
        Bench.due("none is kept", x.undo(), -2);
        Bench.due("run(3)", x.run(3), 3);
        Bench.due("the FAILURE stays told", x.told(4), 1);
        x.begin(1);
        told(x, "begin() forgets it", 0, 0, 0, 0, 0, 0, 0, 0, 0, 0);
    }

    /** What i is behind a block, on a graph of one node; b is true, c false at first. */
    private static void leaves(int want, String block) {
        VertexLanguage x = with(1, "node i:int=0;node b:bool=true;node c:bool=false;start{" + block + "}round{}");
        x.begin(1);
        Bench.due("run(1) of " + block, x.run(1), 1);
        Bench.due("i behind " + block, x.state(0, 0), want);
    }

    private static void operators() {
        String[] signs = {"==", "!=", "<", "<=", ">", ">="};
        String[] want = {"010", "101", "100", "110", "001", "011"};
        for (int k = 0; k < signs.length; k++) {
            for (int n = 0; n < 3; n++) {
                leaves(want[k].charAt(n) - '0', "if " + (n - 1) + signs[k] + "0{i=1;}");
            }
        }
        leaves(1, "if b==!c&&c!=b&&c==c{i=1;}");
        leaves(5, "i=2+3;");
        leaves(-1, "i=2-3;");
        leaves(6, "i=2*3;");
        leaves(3, "i=7/2;");
        leaves(-3, "i=-7/2;");
        leaves(1, "i=7%2;");
        leaves(-1, "i=-7%2;");
        leaves(1, "i=7%-2;");
        leaves(-4, "i=1-2-3;");
        leaves(2, "i=1-(2-3);");
        leaves(1, "i=8/4/2;");
        leaves(14, "i=2+3*4;");
        leaves(20, "i=(2+3)*4;");
        leaves(Integer.MIN_VALUE, "i=2147483647+1;");
        leaves(Integer.MAX_VALUE, "i=-2147483647-2;");
        leaves(Integer.MIN_VALUE, "i=-(-2147483647-1);");
        leaves(-2, "i=2147483647*2;");
        leaves(Integer.MIN_VALUE, "i=(-2147483647-1)/-1;");
        leaves(0, "i=(-2147483647-1)%-1;");
        leaves(7, "i=--7;");
    }

    private static void shortCuts() {
        leaves(1, "if b&&b{i=1;}");
        leaves(0, "if b&&c{i=1;}");
        leaves(0, "if c&&1/i==1{i=1;}");
        leaves(1, "if b||1/i==1{i=1;}");
        leaves(1, "if c||b{i=1;}");
        leaves(0, "if c||c{i=1;}");
        leaves(1, "if c&&1/i==1||b{i=1;}");
        leaves(1, "if b||1/i==1&&1/i==1{i=1;}");
        leaves(0, "if (b||1/i==1)&&c{i=1;}");
        leaves(5, "i=2+if(b,3,1/i);");
        leaves(6, "i=2+if(c,1/i,4);");
        leaves(9, "i=if(b,if(c,1,2),3)+7;");
    }

    private static void choices() {
        leaves(12, "if b{i=1;}else{i=5;}i=i+11;");
        leaves(16, "if c{i=1;}else{i=5;}i=i+11;");
        leaves(11, "if c{i=1;}i=i+11;");
        leaves(3, "let a=1;a=a+1;if b{let d=a+1;i=d;}");
        leaves(7, "if b{let a=3;i=a;}if b{let a=4;i=i+a;}");
    }

    private static void loops() {
        leaves(6, "loop 2{loop 3{i=i+1;}}");
        leaves(20, "loop 1{i=i+1;}".repeat(20));
        leaves(0, "loop 0{i=1;}");
        leaves(100, "loop 100{i=i+1;}");
        leaves(2, Bench.times(12, "loop 1{") + Bench.times(12, "}") + "i=2;");
        leaves(4, "loop 2{" + Bench.times(10, "loop 1{") + Bench.times(10, "}") + "i=i+2;}");
        leaves(3, "loop 100{i=i+1;if i==3{halt;}}");
    }

    private static void longPrograms() {
        // All 1,000 TOKENS, and all but a few of the STEPS.
        VertexLanguage x = with(1, "node i:int=0;start{i=1" + "+1".repeat(491) + ";}round{}");
        x.begin(1);
        Bench.due("run(1) of a long exp", x.run(1), 1);
        Bench.due("its value", x.state(0, 0), 492);
        Bench.due("its STEPS", x.told(9), 1 + 492 + 491);
        // As many operands as can wait: three in each of twelve exps.
        leaves(2, "i=if(" + "1==1+1*if(".repeat(10) + "1==1" + ",1,2)".repeat(10) + ",1,2);");
        leaves(3 * 11 + 1, "i=" + "1+1*(2+".repeat(11) + "1" + ")".repeat(11) + ";");
    }

    private static void failingOften() {
        VertexLanguage x = with(1, "column w;fold f:sum;start{send f 1+(2+(3+(4+draw(arc.w)))) along;}round{}");
        x.arc(0, 0);
        x.begin(1);
        for (int i = 0; i < 100; i++) {
            Bench.due("run(1)", x.run(1), -4);
        }
        x.weight(0, 0, 1);
        Bench.due("run(1)", x.run(1), 1);
        Bench.due("message", x.message(0, 0), 10);
        Bench.due("the FAILURE stays told", x.told(4), 2);
    }
}
