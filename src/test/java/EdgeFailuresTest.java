/** The edges of the FAILURES: what a STEP is, the thousandth and the next, whose FAILURE it is, that all is as before. */
public final class EdgeFailuresTest {
    private static final String TOLD = "column w;node i:int=1;node b:bool=true;node z:int=0;fold f:sum;global g:sum;start{";

    private EdgeFailuresTest() { }

    public static void main(String[] args) {
        dividedByNothing();
        drawnOfTooLittle();
        stepsOfStatements();
        stepsOfRepeats();
        stepsOfArcs();
        stepsOfOperands();
        stepsOfOperators();
        stepsOfWhatIsWorkedOut();
        thousand();
        eachNodeForItself();
        statementsRunOut();
        repeatsRunOut();
        arcsRunOut();
        expsRunOut();
        blocksRunOut();
        operatorsBehindOperands();
        shortOnesBehindTheFirst();
        ownFailureBehindTheStep();
        stepsAheadOfOwnFailure();
        placeOfTheToken();
        firstFailureCounts();
        allAsBefore();
        allAsBeforeTooManySteps();
        failsAgain();
        Bench.finish();
    }

    /** Statements of just so many STEPS. */
    private static String filled(int steps) {
        int rest = steps % 101;
        return "loop 100{}".repeat(steps / 101) + (rest > 0 ? "loop " + (rest - 1) + "{}" : "");
    }

    /** One node with two arcs from and to itself. */
    private static VertexLanguage begun(String block) {
        return Edge.begun(TOLD + block + "}round{}", 1, 0, 0, 0, 0);
    }

    private static void steps(int want, String block) {
        VertexLanguage x = begun(block);
        Bench.due("run(1) of " + block, x.run(1), 1);
        Bench.due("STEPS of " + block, x.told(9), want);
    }

    /** The FAILURE behind so many STEPS; the place is that of the part of the block that begins as told. */
    private static void fails(int before, String block, int what, String at) {
        String filler = filled(before);
        VertexLanguage x = begun(filler + block);
        String when = "[" + block + "] behind " + before + " STEPS";
        Bench.due("run(1) of " + when, x.run(1), -4);
        Bench.due("told(4) of " + when, x.told(4), what);
        Bench.due("told(5) of " + when, x.told(5), 0);
        Bench.due("told(6) of " + when, x.told(6), TOLD.length() + filler.length() + block.indexOf(at));
        Bench.due("told(7) of " + when, x.told(7), 0);
    }

    private static void passes(int before, String block, int steps) {
        VertexLanguage x = begun(filled(before) + block);
        Bench.due("run(1) of [" + block + "] behind " + before + " STEPS", x.run(1), 1);
        Bench.due("STEPS of [" + block + "] behind " + before + " STEPS", x.told(9), before + steps);
    }

    /** Whose each STEP of a block is, by what that statement begins with: the one that is too many tells. */
    private static void runsOut(String block, String... owners) {
        passes(1000 - owners.length, block, owners.length);
        for (int k = 0; k < owners.length; k++) {
            fails(1000 - k, block, 3, owners[k]);
        }
    }

    // ---- 1 and 2

    private static void dividedByNothing() {
        Bench.sentence("FAILURES: 1 divided by 0");
        fails(0, "i=1/0;", 1, "/");
        fails(0, "i=1%0;", 1, "%");
        fails(0, "i=0/z;", 1, "/");
        fails(0, "i=0%z;", 1, "%");
        fails(0, "i=i/(i-i);", 1, "/");
        fails(0, "let a=(-2147483647-1)/z;", 1, "/");
        fails(0, "send f 1/0 along;", 1, "/");
        fails(0, "send f 1%arc.w against;", 1, "%");
        fails(0, "give g 1/z;", 1, "/");
        fails(0, "if 1/z==1{}", 1, "/");
        fails(0, "loop 3{i=1/z;}", 1, "/");
        steps(4, "i=1/1;");
        steps(5, "i=1/-1;");
        steps(4, "i=0%1;");
        steps(7, "i=(-2147483647-1)/i;");
    }

    private static void drawnOfTooLittle() {
        Bench.sentence("2 draw of less than 1");
        fails(0, "i=draw(0);", 2, "draw");
        fails(0, "i=draw(-1);", 2, "draw");
        fails(0, "i=draw(z);", 2, "draw");
        fails(0, "i=draw(-2147483647-1);", 2, "draw");
        fails(0, "send f draw(arc.w) along;", 2, "draw");
        fails(0, "give g draw(z);", 2, "draw");
        fails(0, "if draw(z)==0{}", 2, "draw");
        fails(0, "i=draw(draw(1));", 2, "draw");
        steps(3, "i=draw(1);");
        steps(3, "i=draw(2147483647);");
    }

    // ---- what a STEP is

    private static void stepsOfStatements() {
        Bench.sentence("STEPS .. each statement that is begun");
        steps(0, "");
        steps(1, "halt;");
        steps(1, "halt;halt;");
        steps(2, "i=1;");
        steps(2, "let a=1;");
        steps(2, "give g 1;");
        steps(2, "if b{}");
        steps(2, "if b{}else{}");
        steps(3, "if b{halt;}");
        steps(2, "if false{halt;}");
        steps(3, "if false{i=1;}else{halt;}");
        steps(4, "i=1;i=1;");
        steps(1, "loop 0{i=1;}");
    }

    private static void stepsOfRepeats() {
        Bench.sentence("STEPS .. each repeat of a loop");
        steps(1, "loop 0{}");
        steps(2, "loop 1{}");
        steps(101, "loop 100{}");
        steps(1 + 3 * 3, "loop 3{i=1;}");
        steps(1 + 2 * (1 + 1 + 3), "loop 2{loop 3{}}");
        steps(3, "loop 100{halt;}");
    }

    private static void stepsOfArcs() {
        Bench.sentence("STEPS .. each arc of a send");
        steps(1 + 2 * 2, "send f 1 along;");
        steps(1 + 2 * 2, "send f 1 against;");
        steps(1 + 2 * 4, "send f arc.w+1 along;");
        VertexLanguage x = Edge.begun(TOLD + "send f 1 along;}round{}", 3, 0, 1, 0, 2, 0, 2);
        x.run(1);
        Bench.due("three arcs of 0, none of the others", x.told(9), 7 + 1 + 1);
    }

    private static void stepsOfOperands() {
        Bench.sentence("STEPS .. each operand .. of an exp that is worked out is one");
        for (String operand : new String[] {"1", "i", "f", "g", "id", "turn", "nodes", "degree", "indegree", "(1)", "((i))"}) {
            steps(2, "i=" + operand + ";");
        }
        for (String operand : new String[] {"true", "false", "b", "has f", "(has f)"}) {
            steps(2, "b=" + operand + ";");
        }
        steps(4, "let a=1;let c=a;");
        steps(5, "send f arc.w along;");
    }

    private static void stepsOfOperators() {
        Bench.sentence("STEPS .. each .. operator of an exp that is worked out is one");
        for (String sign : new String[] {"+", "-", "*", "/", "%"}) {
            steps(4, "i=1" + sign + "1;");
            steps(6, "i=1" + sign + "1" + sign + "1;");
        }
        for (String sign : new String[] {"==", "!=", "<", "<=", ">", ">="}) {
            steps(4, "b=1" + sign + "1;");
        }
        steps(3, "i=-1;");
        steps(4, "i=--1;");
        steps(3, "b=!b;");
        steps(3, "i=draw(1);");
        steps(6, "i=draw(draw(1)+1);");
    }

    private static void stepsOfWhatIsWorkedOut() {
        Bench.sentence("STEPS .. of an exp that is worked out");
        steps(4, "b=true&&true;");
        steps(3, "b=false&&true;");
        steps(4, "b=false||true;");
        steps(3, "b=true||true;");
        steps(4, "b=false&&true&&true;");
        steps(4, "b=true||true||true;");
        steps(5, "b=false&&true||b;");
        steps(4, "i=if(true,1,2+3);");
        steps(6, "i=if(false,1,2+3);");
        steps(4, "i=if(false,1+2,3);");
        steps(6, "i=if(true,1+2,3);");
        steps(5, "i=if(!b,1+2,3);");
    }

    // ---- the thousandth STEP and the next

    private static void thousand() {
        Bench.sentence("3 more than 1,000 STEPS of a node in a turn");
        for (int n : new int[] {990, 998, 999, 1000}) {
            steps(n, filled(n));
        }
        for (int n : new int[] {1001, 1002, 1010, 2000, 3000}) {
            VertexLanguage x = begun(filled(n));
            Bench.due("run(1) of " + n + " STEPS", x.run(1), -4);
            Bench.due("told(4) of " + n + " STEPS", x.told(4), 3);
        }
        VertexLanguage x = begun("loop 100{loop 100{loop 100{loop 100{}}}}");
        Bench.due("run(1) of a hundred millions", x.run(1), -4);
        Bench.due("told(4)", x.told(4), 3);
        steps(1000, filled(999) + "halt;" + filled(500));
        // In round as in start.
        for (int n = 1000; n <= 1001; n++) {
            x = Edge.begun("start{}round{" + filled(n) + "}", 1);
            Bench.due("run(2) of " + n + " STEPS in TURN 1", x.run(2), n == 1000 ? 2 : -4);
            Bench.due("told(7)", x.told(7), n == 1000 ? 0 : 1);
        }
    }

    private static void eachNodeForItself() {
        Bench.sentence("1,000 STEPS of a node in a turn (each node, each TURN for itself)");
        VertexLanguage x = Edge.begun("start{" + filled(1000) + "}round{" + filled(1000) + "}", 40);
        Bench.due("run(5)", x.run(5), 5);
        Bench.due("told(9)", x.told(9), 40000);
        x = Edge.begun("start{if id==39{" + filled(997) + "}}round{}", 40);
        Bench.due("run(1)", x.run(1), -4);
        Bench.due("told(4)", x.told(4), 3);
        Bench.due("told(5)", x.told(5), 39);
        x = Edge.begun("start{if id==39{" + filled(996) + "}}round{}", 40);
        Bench.due("run(1)", x.run(1), 1);
        Bench.due("told(9)", x.told(9), 39 * 4 + 1000);
    }

    private static void statementsRunOut() {
        Bench.sentence("of 3 the first one of the statement (each statement that is begun)");
        runsOut("halt;", "halt");
        runsOut("i=1;halt;", "i=", "i=", "halt");
        runsOut("let a=1;i=a;", "let", "let", "i=", "i=");
        runsOut("give g 1;", "give", "give");
        runsOut("if b{}", "if", "if");
        runsOut("if b{halt;}", "if", "if", "halt");
        runsOut("if !b{}else{i=1;}", "if", "if", "if", "i=", "i=");
    }

    private static void repeatsRunOut() {
        Bench.sentence("of 3 the first one of the statement (a repeat is the loop's)");
        runsOut("loop 0{}", "loop");
        runsOut("loop 2{}", "loop", "loop", "loop");
        runsOut("loop 2{i=1;}", "loop", "loop", "i=", "i=", "loop", "i=", "i=");
        runsOut("loop 2{ loop 1{}}", "loop 2", "loop 2", "loop 1", "loop 1", "loop 2", "loop 1", "loop 1");
        runsOut("loop 1{if b{give g 1;}}i=2;", "loop", "loop", "if", "if", "give", "give", "i=", "i=");
    }

    private static void arcsRunOut() {
        Bench.sentence("of 3 the first one of the statement (an arc is the send's)");
        runsOut("send f 1 along;", "send", "send", "send", "send", "send");
        runsOut("send f 1 along;send f 2 against;", "send f 1", "send f 1", "send f 1", "send f 1", "send f 1",
            "send f 2", "send f 2", "send f 2", "send f 2", "send f 2");
        runsOut("if b{send f -1 along;}halt;", "if", "if", "send", "send", "send", "send", "send", "send", "send", "halt");
    }

    private static void expsRunOut() {
        Bench.sentence("of 3 the first one of the statement (an operand, an operator)");
        runsOut("i=1+2*3;", "i=", "i=", "i=", "i=", "i=", "i=");
        runsOut("b=true&&false;b=false&&true;", "b=true", "b=true", "b=true", "b=true", "b=false", "b=false", "b=false");
        runsOut("b=true||false;", "b=", "b=", "b=");
        runsOut("i=if(b,-1,2);", "i=", "i=", "i=", "i=", "i=");
        runsOut("i=if(!b,-1,2);", "i=", "i=", "i=", "i=", "i=");
        runsOut("i=draw(2);", "i=", "i=", "i=");
        runsOut("b=has f;", "b=", "b=");
        runsOut("if b||b{i=-i;}", "if", "if", "if", "i=", "i=", "i=");
        runsOut("if 1<2&&true{}", "if", "if", "if", "if", "if", "if");
    }

    private static void blocksRunOut() {
        Bench.sentence("of 3 the first one of the statement (behind a block it is the next one's)");
        runsOut("if b{i=1;}let a=2;", "if", "if", "i=", "i=", "let", "let");
        runsOut("loop 1{if b{}else{}i=1;}", "loop", "loop", "if", "if", "i=", "i=");
        runsOut("if false{i=1;}else{ let a=1;}give g 1;", "if", "if", "let", "let", "give", "give");
    }

    // ---- in which order

    private static void operatorsBehindOperands() {
        Bench.sentence("an operator's (-, !, draw .. too) comes behind those of its operands");
        // The statement's, 1's, 0's and the /'s: the other operator's would be one more.
        for (String block : new String[] {"i=-(1/0);", "b=!(1/0==1);", "i=draw(1/0);", "i=1/0+1;", "i=1/0*2;", "b=1/0<1;", "b=1/0==1;",
            "i=1/0/0;"}) {
            fails(996, block, 1, "/");
            fails(997, block, 3, block);
        }
        for (String block : new String[] {"i=2+1/0;", "i=2*(1/0);", "b=2<1/0;", "b=2==1/0;", "i=2-(1/0);"}) {
            fails(995, block, 1, "/");
            fails(996, block, 3, block);
        }
        fails(997, "i=-draw(0);", 2, "draw");
        fails(998, "i=-draw(0);", 3, "i=");
        fails(997, "i=draw(0)+1;", 2, "draw");
    }

    private static void shortOnesBehindTheFirst() {
        Bench.sentence("of && || if behind those of the first");
        // The statement's, the first's, the operator's, 1's, 0's, and the /'s.
        for (String block : new String[] {"b=true&&1/0==1;", "b=false||1/0==1;", "i=if(true,1/0,2);", "i=if(false,2,1/0);"}) {
            fails(994, block, 1, "/");
            fails(995, block, 3, block);
        }
        // In the first it comes ahead of the operator's.
        for (String block : new String[] {"b=1/0==1&&true;", "b=1/0==1||true;", "i=if(1/0==1,1,2);"}) {
            fails(996, block, 1, "/");
            fails(997, block, 3, block);
        }
        // A second && in a chain: the first's, &&'s, the second's, &&'s.
        fails(992, "b=true&&true&&1/0==1;", 1, "/");
        fails(993, "b=true&&true&&1/0==1;", 3, "b=");
        passes(997, "b=false&&1/0==1;", 3);
        passes(997, "b=true||1/0==1;", 3);
    }

    private static void ownFailureBehindTheStep() {
        Bench.sentence("its own FAILURE behind that");
        fails(996, "i=1/0;", 1, "/");
        fails(997, "i=1/0;", 3, "i=");
        fails(996, "i=1%0;", 1, "%");
        fails(997, "i=1%0;", 3, "i=");
        fails(997, "i=draw(0);", 2, "draw");
        fails(998, "i=draw(0);", 3, "i=");
    }

    private static void stepsAheadOfOwnFailure() {
        Bench.sentence("FAILURES .. (the first that comes)");
        fails(0, "i=1/0;i=draw(0);", 1, "/");
        fails(0, "i=draw(0);i=1/0;", 2, "draw");
        fails(0, "i=draw(0)/0;", 2, "draw");
        fails(0, "i=draw(1/0);", 1, "/");
        fails(0, "i=1/0%0;", 1, "/");
        fails(0, "i=1%0/0;", 1, "%");
        fails(0, "i=1/(1%0);", 1, "%");
        fails(900, "i=1/0;" + filled(300), 1, "/");
    }

    private static void placeOfTheToken() {
        Bench.sentence("6 the place in the text of the TOKEN (/, %, draw ..)");
        fails(0, "i = 1 + 8 / # none\n 0 ;", 1, "/");
        fails(0, "i=7/1+6%z;", 1, "%");
        fails(0, "i=7/1/z/1;", 1, "/z");
        fails(0, "\n\n  i=draw(1)+draw ( z );", 2, "draw (");
        fails(0, "i=(((1/(0))));", 1, "/");
        // In the text as it was written, not as it is PRINTED.
        VertexLanguage x = Edge.begun("node n:int=0;start{}# a remark\n\n\nround{n=((1))   %  0;}", 1);
        Bench.due("run(2)", x.run(2), -4);
        Bench.due("told(6)", x.told(6), "node n:int=0;start{}# a remark\n\n\nround{n=((1))   %  0;}".indexOf('%'));
        Bench.due("told(7)", x.told(7), 1);
    }

    private static void firstFailureCounts() {
        Bench.sentence("5 its node (the first that fails, by rising number)");
        for (int node = 0; node < 5; node++) {
            VertexLanguage x = Edge.begun("node n:int=0;start{n=1/(if(id<" + node + ",1,0));}round{}", 5);
            Bench.due("run(1)", x.run(1), -4);
            Bench.due("told(5)", x.told(5), node);
        }
    }

    // ---- all is as before

    /** TURN 6 comes next; in it node 3 fails, behind all that the others do. */
    private static void beforeFailure(VertexLanguage x, String failing) {
        Bench.read(x, "column w;node n:int=3;node b:bool=true;node m:int=-7;fold f:sum;fold h:first;fold l:least;global g:sum;"
            + "global a:all;global t:most;start{send f id along;give g n;if id==1{halt;}}"
            + "round{n=n*3+f;b=!b;m=draw(100);send h m against;send l n+arc.w along;give g n;give a b;give t m;"
            + "if turn==6&&id==3{" + failing + "}if id!=1{send f n along;}if id<2{halt;}}");
        x.nodes(4);
        int[] ends = {0, 1, 1, 2, 2, 0, 3, 3, 3, 0, 0, 3};
        for (int arc = 0; arc < 6; arc++) {
            x.arc(ends[2 * arc], ends[2 * arc + 1]);
            x.weight(arc, 0, arc + 1);
        }
        x.begin(21);
        x.run(6);
    }

    private static void allAsBefore(String failing, int what) {
        Twins.untouched("run(1) that fails", x -> beforeFailure(x, failing), x -> x.run(1), -4,
            "told(4)", "told(5)", "told(6)", "told(7)");
        VertexLanguage x = new VertexLanguage();
        beforeFailure(x, failing);
        Bench.due("told(4) ahead of it", x.told(4), 0);
        int steps = x.told(9);
        Bench.due("run(100)", x.run(100), -4);
        int[] want = {6, 0, x.told(2), x.told(3), what, 3, x.told(6), 6, 6, steps};
        for (int i = 0; i < 10; i++) {
            Bench.due("told(" + i + ")", x.told(i), want[i]);
        }
    }

    private static void allAsBefore() {
        Bench.sentence("The turn is not done then: all is as before it");
        allAsBefore("n=1/0;", 1);
        allAsBefore("n=draw(0);", 2);
        // The FAILURE comes in the midst of a send.
        allAsBefore("send f 1/(arc.w-5) along;", 1);
    }

    private static void allAsBeforeTooManySteps() {
        Bench.sentence("The turn is not done then: all is as before it (more than 1,000 STEPS)");
        allAsBefore("loop 100{loop 100{n=n+1;give g 1;}}", 3);
        allAsBefore("loop 100{send f n along;send f n against;}", 3);
    }

    private static void failsAgain() {
        Bench.sentence("all is as before it (so it fails again, or goes on when the graph's numbers do not make it fail)");
        VertexLanguage x = Edge.begun("column w;node n:int=0;fold f:sum;start{n=n+1;send f 6/arc.w along;}round{}", 1, 0, 0);
        for (int i = 0; i < 20; i++) {
            Bench.due("run(1)", x.run(1), -4);
            Bench.due("state(0, 0)", x.state(0, 0), 0);
            Bench.due("told(2)", x.told(2), 0);
        }
        x.weight(0, 0, 2);
        Bench.due("run(1)", x.run(1), 1);
        Bench.due("state(0, 0)", x.state(0, 0), 1);
        Bench.due("message(0, 0)", x.message(0, 0), 3);
        Bench.due("messages(0, 0)", x.messages(0, 0), 1);
        Bench.due("the FAILURE stays told", x.told(4), 1);
    }
}
