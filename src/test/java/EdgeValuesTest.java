/** The edges of values: folds where there is nothing, ints that wrap, what is not worked out, draws. */
public final class EdgeValuesTest {
    private static final int MIN = Integer.MIN_VALUE, MAX = Integer.MAX_VALUE;

    private EdgeValuesTest() { }

    public static void main(String[] args) {
        nothingInFolds();
        nothingInGlobals();
        nothingIsNotFolded();
        sumWraps();
        least();
        most();
        first();
        all();
        some();
        intsWrap();
        divided();
        remainder();
        compared();
        bothOnlyAsNeeded();
        eitherOnlyAsNeeded();
        choiceOnlyAsNeeded();
        chainsFromTheLeft();
        loopsAndChoices();
        letsWorkedOutAnew();
        drawIsMixed();
        drawCounts();
        drawWithoutSign();
        drawOfOne();
        Bench.finish();
    }

    private static final String INT_MIN = "(-2147483647-1)";

    private static void leaves(int want, String exp) {
        Edge.leaves(want, "node n:int=5;node z:int=0;node t:bool=true;node f:bool=false;start{n=" + exp + ";}round{}");
    }

    private static void leavesBool(boolean want, String exp) {
        Edge.leaves(want ? 1 : 0, "node n:bool=" + !want + ";node z:int=0;node t:bool=true;node f:bool=false;start{n=" + exp
            + ";}round{}");
    }

    // ---- folds

    private static final String[] WAYS = {"sum", "least", "most", "first", "all", "some"};
    private static final int[] NOTHING = {0, MAX, MIN, 0, 1, 0};

    private static void nothingInFolds() {
        Bench.sentence("folds .. where there is nothing: 0, 2,147,483,647, - 2,147,483,648, 0, true, false");
        for (int k = 0; k < WAYS.length; k++) {
            String state = k < 4 ? "node n:int=99;" : "node n:bool=" + (k == 5) + ";";
            VertexLanguage x = Edge.begun(state + "fold f:" + WAYS[k] + ";start{n=f;}round{n=f;}", 2, 0, 1);
            Bench.due("message(1, 0) of " + WAYS[k], x.message(1, 0), NOTHING[k]);
            for (int turn = 0; turn < 2; turn++) {
                x.run(1);
                Bench.due("read, " + WAYS[k], x.state(1, 0), NOTHING[k]);
                Bench.due("message(1, 0) of " + WAYS[k], x.message(1, 0), NOTHING[k]);
                Bench.due("messages(1, 0) of " + WAYS[k], x.messages(1, 0), 0);
            }
        }
    }

    private static void nothingInGlobals() {
        Bench.sentence("globals .. where there is nothing: 0, 2,147,483,647, - 2,147,483,648, 0, true, false");
        for (int k = 0; k < WAYS.length; k++) {
            String state = k < 4 ? "node n:int=99;" : "node n:bool=" + (k == 5) + ";";
            VertexLanguage x = Edge.begun(state + "global g:" + WAYS[k] + ";start{n=g;}round{n=g;}", 2);
            Bench.due("global(0) of " + WAYS[k], x.global(0), NOTHING[k]);
            for (int turn = 0; turn < 2; turn++) {
                x.run(1);
                Bench.due("read, " + WAYS[k], x.state(1, 0), NOTHING[k]);
                Bench.due("global(0) of " + WAYS[k], x.global(0), NOTHING[k]);
            }
        }
    }

    private static void nothingIsNotFolded() {
        Bench.sentence("where there is nothing (it does not count where there is something)");
        VertexLanguage x = Edge.begun("fold a:least;fold b:most;fold c:first;fold d:sum;global e:least;global f:most;"
            + "global g:first;global h:sum;start{if id==0{send a 2147483647 along;send b -2147483647-1 along;send c 0 along;"
            + "send c 9 along;send d 0 along;give e 2147483647;give f -2147483647-1;give g 0;give g 9;give h 0;}}round{}", 2, 0, 1);
        x.run(1);
        int[] want = {MAX, MIN, 0, 0};
        int[] times = {1, 1, 2, 1};
        for (int k = 0; k < 4; k++) {
            Bench.due("message(1, " + k + ")", x.message(1, k), want[k]);
            Bench.due("messages(1, " + k + ")", x.messages(1, k), times[k]);
            Bench.due("global(" + k + ")", x.global(k), want[k]);
        }
    }

    /** Node 0 sends and gives these to all, in this order: what is it folded to? */
    private static void folded(String way, int want, String... values) {
        StringBuilder s = new StringBuilder();
        for (String v : values) {
            s.append("send f ").append(v).append(" along;give g ").append(v).append(";");
        }
        boolean isBool = way.equals("all") || way.equals("some");
        VertexLanguage x = Edge.begun("node n:" + (isBool ? "bool=false" : "int=0") + ";node m:" + (isBool ? "bool=false" : "int=0")
            + ";fold f:" + way + ";global g:" + way + ";start{if id==0{" + s + "}}round{n=f;m=g;}", 2, 0, 1);
        x.run(1);
        String what = way + " of " + String.join(", ", values);
        Bench.due("message, " + what, x.message(1, 0), want);
        Bench.due("global, " + what, x.global(0), want);
        Bench.due("messages, " + what, x.messages(1, 0), values.length);
        x.run(1);
        Bench.due("read of the fold, " + what, x.state(1, 0), want);
        Bench.due("read of the global, " + what, x.state(1, 1), want);
    }

    private static void sumWraps() {
        Bench.sentence("sum (wrapping)");
        folded("sum", 7, "7");
        folded("sum", 6, "1", "2", "3");
        folded("sum", MAX, "2147483647");
        folded("sum", MIN, "2147483647", "1");
        folded("sum", -2, "2147483647", "2147483647");
        folded("sum", MAX, INT_MIN, "-1");
        folded("sum", 0, INT_MIN, INT_MIN);
        folded("sum", MAX, "2147483647", "1", "-1");
    }

    private static void least() {
        Bench.sentence("least");
        folded("least", 3, "3");
        folded("least", -4, "3", "-4", "7");
        folded("least", -4, "-4", "3");
        folded("least", MIN, "0", INT_MIN, "2147483647");
        folded("least", MAX, "2147483647");
    }

    private static void most() {
        Bench.sentence("most");
        folded("most", -3, "-3");
        folded("most", 7, "3", "7", "-4");
        folded("most", MAX, "0", "2147483647", INT_MIN);
        folded("most", MIN, INT_MIN);
    }

    private static void first() {
        Bench.sentence("first");
        folded("first", 3, "3");
        folded("first", 5, "5", "3", "9");
        folded("first", 0, "0", "3");
        folded("first", MIN, INT_MIN, "3");
    }

    private static void all() {
        Bench.sentence("all");
        folded("all", 1, "true");
        folded("all", 0, "false");
        folded("all", 1, "true", "true", "true");
        folded("all", 0, "true", "true", "false");
        folded("all", 0, "false", "true", "true");
    }

    private static void some() {
        Bench.sentence("some");
        folded("some", 1, "true");
        folded("some", 0, "false");
        folded("some", 0, "false", "false", "false");
        folded("some", 1, "false", "false", "true");
        folded("some", 1, "true", "false", "false");
    }

    // ---- ints

    private static void intsWrap() {
        Bench.sentence("Ints wrap");
        leaves(MAX, "2147483646+1");
        leaves(MIN, "2147483647+1");
        leaves(MIN, "-2147483647-1");
        leaves(MAX, "-2147483647-2");
        leaves(-2, "2147483647*2");
        leaves(0, "65536*65536");
        leaves(1, "2147483647*2147483647");
        leaves(MIN, "-" + INT_MIN);
        leaves(MIN, INT_MIN + "*-1");
        leaves(0, INT_MIN + "*2");
        leaves(-MAX, "-2147483647");
        leaves(0, "-0");
    }

    private static void divided() {
        Bench.sentence("/ and % as in Java (/)");
        leaves(3, "7/2");
        leaves(-3, "-7/2");
        leaves(-3, "7/-2");
        leaves(3, "-7/-2");
        leaves(0, "1/2");
        leaves(0, "-1/2");
        leaves(0, "0/5");
        leaves(MIN, INT_MIN + "/-1");
        leaves(MIN, INT_MIN + "/1");
        leaves(1, INT_MIN + "/" + INT_MIN);
        leaves(0, "2147483647/" + INT_MIN);
        leaves(-1, INT_MIN + "/2147483647");
    }

    private static void remainder() {
        Bench.sentence("/ and % as in Java (%)");
        leaves(1, "7%2");
        leaves(-1, "-7%2");
        leaves(1, "7%-2");
        leaves(-1, "-7%-2");
        leaves(0, "6%3");
        leaves(0, INT_MIN + "%-1");
        leaves(0, "5%1");
        leaves(-1, INT_MIN + "%2147483647");
        leaves(MAX, "2147483647%" + INT_MIN);
    }

    private static void compared() {
        Bench.sentence("== != < <= > >= (at the edges of ints)");
        String[] signs = {"==", "!=", "<", "<=", ">", ">="};
        String[] values = {INT_MIN, "-2147483647", "-1", "0", "1", "2147483647"};
        int[] numbers = {MIN, -MAX, -1, 0, 1, MAX};
        for (int i = 0; i < values.length; i++) {
            for (int k = 0; k < values.length; k++) {
                int a = numbers[i];
                int b = numbers[k];
                boolean[] want = {a == b, a != b, a < b, a <= b, a > b, a >= b};
                for (int s = 0; s < signs.length; s++) {
                    leavesBool(want[s], values[i] + signs[s] + values[k]);
                }
            }
        }
        for (String a : new String[] {"t", "f"}) {
            for (String b : new String[] {"t", "f"}) {
                leavesBool(a.equals(b), a + "==" + b);
                leavesBool(!a.equals(b), a + "!=" + b);
                leavesBool(a.equals("t") && b.equals("t"), a + "&&" + b);
                leavesBool(a.equals("t") || b.equals("t"), a + "||" + b);
            }
            leavesBool(a.equals("f"), "!" + a);
            leavesBool(a.equals("t"), "!!" + a);
        }
    }

    // ---- only as far as needed

    private static void fails(int want, String exp) {
        VertexLanguage x = Edge.begun("node n:int=5;node z:int=0;node t:bool=true;node f:bool=false;start{if " + exp + "{}}round{}", 1);
        Bench.due("run(1) of " + exp, x.run(1), -4);
        Bench.due("told(4) of " + exp, x.told(4), want);
    }

    private static void bothOnlyAsNeeded() {
        Bench.sentence("&& .. worked out only as far as needed");
        leavesBool(false, "f&&1/z==1");
        leavesBool(false, "t&&f&&1/z==1");
        leavesBool(false, "f&&1/z==1&&1/z==1");
        leavesBool(false, "f&&draw(0)==1");
        fails(1, "t&&1/z==1");
        fails(1, "1/z==1&&f");
        fails(2, "t&&t&&draw(z)==1");
        leavesBool(true, "t&&1/1==1");
    }

    private static void eitherOnlyAsNeeded() {
        Bench.sentence("|| .. worked out only as far as needed");
        leavesBool(true, "t||1/z==1");
        leavesBool(true, "f||t||1/z==1");
        leavesBool(true, "t||1/z==1||1/z==1");
        leavesBool(true, "t||draw(0)==1");
        leavesBool(true, "t||1/z==1&&1/z==1");
        leavesBool(true, "f&&1/z==1||t");
        fails(1, "f||1%z==1");
        fails(1, "1/z==1||t");
        fails(2, "f||f||draw(z)==1");
        leavesBool(false, "(t||1/z==1)&&f");
    }

    private static void choiceOnlyAsNeeded() {
        Bench.sentence("if .. worked out only as far as needed");
        leaves(1, "if(t,1,1/z)");
        leaves(2, "if(f,1/z,2)");
        leaves(3, "1+if(t,2,draw(0))");
        leaves(9, "if(t,if(f,1/z,2),1/z)+7");
        leavesBool(true, "if(f,1/z==1,t)");
        fails(1, "if(t,1/z,1)==1");
        fails(1, "if(f,1,1/z)==1");
        fails(1, "if(1/z==1,1,1)==1");
        // Statements too.
        Edge.leaves(2, "node n:int=0;start{if true{n=2;}else{n=1/0;}}round{}");
        Edge.leaves(3, "node n:int=0;start{if false{n=1/0;}else{n=3;}}round{}");
        Edge.leaves(0, "node n:int=0;start{if false{n=1/0;}}round{}");
        Edge.leaves(0, "node n:int=0;start{loop 0{n=1/0;}}round{}");
    }

    private static void chainsFromTheLeft() {
        Bench.sentence("chains of || && + - * / % are read from the left");
        leaves(-4, "1-2-3");
        leaves(2, "1-(2-3)");
        leaves(1, "8/4/2");
        leaves(4, "8/(4/2)");
        leaves(2, "17%10%5");
        leaves(4, "5-2+1");
        leaves(6, "7/2*2");
        leaves(8, "2*9/2-1");
        leaves(14, "2+3*4");
        leaves(20, "(2+3)*4");
        leavesBool(true, "t||t&&f");
        leavesBool(false, "(t||t)&&f");
        leavesBool(true, "f&&f||t");
        leavesBool(false, "f&&(f||t)");
        leaves(-1, "-3+2");
        leaves(-5, "-(3+2)");
        leaves(5, "--5");
        leavesBool(false, "!t&&f");
        leavesBool(true, "!(t&&f)");
        leavesBool(true, "!f==t");
    }

    private static void loopsAndChoices() {
        Bench.sentence("'loop' NUMBER block (so many repeats: 0 .. 100)");
        for (int times : new int[] {0, 1, 2, 99, 100}) {
            Edge.leaves(times, "node n:int=0;start{loop " + times + "{n=n+1;}}round{}");
        }
        Edge.leaves(12, "node n:int=0;start{loop 3{loop 4{n=n+1;}}}round{}");
        Edge.leaves(100, "node n:int=0;start{loop 10{loop 10{n=n+1;}}}round{}");
        Edge.leaves(64, "node n:int=1;start{loop 2{loop 1{n=n*2;}loop 2{n=n*2;}}}round{}");
        Edge.leaves(1, "node n:int=0;start{" + "loop 1{".repeat(11) + "n=n+1;" + "}".repeat(11) + "}round{}");
        Edge.leaves(8, "node n:int=0;start{" + "loop 2{".repeat(3) + "loop 1{".repeat(8) + "n=n+1;" + "}".repeat(11) + "}round{}");
    }

    private static void letsWorkedOutAnew() {
        Bench.sentence("'let' NAME '=' exp ';' (each time that it is begun)");
        Edge.leaves(6, "node n:int=0;start{loop 3{n=n+1;let a=n;a=a*2;n=if(n<3,n,a);}}round{}");
        Edge.leaves(9, "node n:int=0;start{if true{let a=4;n=a;}if true{let a=5;n=n+a;}}round{}");
        Edge.leaves(36, "node n:int=0;start{let a=1;let b=2;let c=3;let d=4;let e=5;let f=6;let g=7;let h=8;n=a+b+c+d+e+f+g+h;}round{}");
        Edge.leaves(21, "node n:int=0;start{let a=1;if true{let b=10;a=a+b;}if true{let c=10;a=a+c;}n=a;}round{}");
    }

    // ---- draws

    private static int mixed(int seed, int node, int turn, int drawn) {
        int h = seed;
        for (int x : new int[] {node, turn, drawn}) {
            h = (h ^ x) * 0x9E3779B1;
            h = h ^ h >>> 15;
        }
        return h;
    }

    private static void drawIsMixed() {
        Bench.sentence("draw(n): MIX of the seed, the node, the TURN and how many the node has drawn .. modulo n");
        // Worked out by hand: seed 0, node 0, TURN 0, the first: all stays 0.
        Bench.due("0 is mixed to 0", mixed(0, 0, 0, 0), 0);
        VertexLanguage x = Edge.begun("node n:int=9;node m:int=0;start{n=draw(1000000007);m=draw(10);}round{n=draw(1000000007);m=draw(10);}", 3);
        x.begin(0);
        x.run(1);
        Bench.due("seed 0, node 0, TURN 0", x.state(0, 0), 0);
        for (int seed : new int[] {0, 1, 2, -1, 77, MIN, MAX}) {
            x = Edge.begun("node n:int=9;node m:int=0;start{n=draw(1000000007);m=draw(10);}round{n=draw(1000000007);m=draw(10);}", 40);
            x.begin(seed);
            for (int turn = 0; turn < 3; turn++) {
                x.run(1);
                for (int node = 0; node < 40; node += 13) {
                    Bench.due("seed " + seed + ", node " + node + ", TURN " + turn, x.state(node, 0),
                        Integer.remainderUnsigned(mixed(seed, node, turn, 0), 1000000007));
                    Bench.due("the second, seed " + seed + ", node " + node + ", TURN " + turn, x.state(node, 1),
                        Integer.remainderUnsigned(mixed(seed, node, turn, 1), 10));
                }
            }
        }
    }

    private static void drawCounts() {
        Bench.sentence("how many the node has drawn in this turn (0 ..)");
        VertexLanguage x = Edge.begun("node a:int=0;node b:int=0;node c:int=0;start{if id==0{loop 50{a=draw(1000);}}b=draw(1000);"
            + "if false&&draw(9)==1{}c=if(true,draw(1000),draw(9));a=draw(1000);}round{a=draw(draw(1000)+1);b=draw(1000);}", 2);
        x.begin(5);
        x.run(1);
        for (int node = 0; node < 2; node++) {
            int before = node == 0 ? 50 : 0;
            Bench.due("b of " + node, x.state(node, 1), Integer.remainderUnsigned(mixed(5, node, 0, before), 1000));
            Bench.due("c of " + node + ": what is not worked out is not drawn", x.state(node, 2),
                Integer.remainderUnsigned(mixed(5, node, 0, before + 1), 1000));
            Bench.due("a of " + node, x.state(node, 0), Integer.remainderUnsigned(mixed(5, node, 0, before + 2), 1000));
        }
        x.run(1);
        for (int node = 0; node < 2; node++) {
            int inner = Integer.remainderUnsigned(mixed(5, node, 1, 0), 1000);
            Bench.due("a draw within a draw comes first", x.state(node, 0),
                Integer.remainderUnsigned(mixed(5, node, 1, 1), inner + 1));
            Bench.due("b of " + node, x.state(node, 1), Integer.remainderUnsigned(mixed(5, node, 1, 2), 1000));
        }
    }

    private static void drawWithoutSign() {
        Bench.sentence("modulo n (without sign)");
        int above = 0;
        for (int seed = 1; seed <= 60; seed++) {
            VertexLanguage x = Edge.begun("node n:int=0;node m:int=0;start{n=draw(2147483647);m=draw(7);}round{}", 1);
            x.begin(seed);
            x.run(1);
            int h = mixed(seed, 0, 0, 0);
            above += h < 0 ? 1 : 0;
            Bench.due("draw(MAX), seed " + seed, x.state(0, 0), (int) ((h & 0xFFFFFFFFL) % MAX));
            Bench.due("draw(7), seed " + seed, x.state(0, 1), (int) ((mixed(seed, 0, 0, 1) & 0xFFFFFFFFL) % 7));
        }
        Bench.due("both signs were there", above > 10 && above < 50 ? 1 : 0, 1);
    }

    private static void drawOfOne() {
        Bench.sentence("2 draw of less than 1 (1 is the least that can be drawn of)");
        for (int seed = 0; seed < 5; seed++) {
            VertexLanguage x = Edge.begun("node n:int=5;start{n=draw(1);}round{}", 1);
            x.begin(seed);
            Bench.due("run(1)", x.run(1), 1);
            Bench.due("draw(1)", x.state(0, 0), 0);
        }
        for (String wrong : new String[] {"0", "-1", "-2147483647", INT_MIN, "2147483647+1"}) {
            VertexLanguage x = Edge.begun("node n:int=5;start{n=draw(" + wrong + ");}round{}", 1);
            Bench.due("run(1) with draw(" + wrong + ")", x.run(1), -4);
            Bench.due("told(4)", x.told(4), 2);
        }
    }
}
