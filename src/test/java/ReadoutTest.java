/** Promises 16 to 20: state, message, messages, global, halted. */
public final class ReadoutTest {
    private ReadoutTest() { }

    public static void main(String[] args) {
        states();
        folds();
        boolFolds();
        nothing();
        wrongNumbers();
        behindALargerProgram();
        Bench.finish();
    }

    private static VertexLanguage begun(int nodes, int[][] arcs, String text) {
        VertexLanguage x = new VertexLanguage();
        int answer = Bench.read(x, text);
        Bench.due("program() of " + text + " is good", answer >= 0 ? 1 : answer, 1);
        x.nodes(nodes);
        for (int[] arc : arcs) {
            x.arc(arc[0], arc[1]);
        }
        x.begin(1);
        return x;
    }

    private static void states() {
        VertexLanguage x = begun(2, new int[0][], "node a:int=2147483647;node b:bool=true;node c:int=-2147483647;"
            + "node d:bool=false;start{a=a+1;b=!b;c=c-2;d=a<0&&!b;}round{let t=id;t=t+5;a=t;loop 3{let u=t;t=u*2;}c=t;}");
        Bench.due("a", x.state(0, 0), Integer.MAX_VALUE);
        Bench.due("b", x.state(0, 1), 1);
        Bench.due("c", x.state(0, 2), -2147483647);
        Bench.due("d", x.state(0, 3), 0);
        x.run(1);
        Bench.due("a wraps", x.state(1, 0), Integer.MIN_VALUE);
        Bench.due("b", x.state(1, 1), 0);
        Bench.due("c wraps", x.state(1, 2), Integer.MAX_VALUE);
        Bench.due("d", x.state(1, 3), 1);
        x.run(1);
        Bench.due("a from a let", x.state(1, 0), 6);
        Bench.due("c from a let", x.state(1, 2), 48);
    }

    private static void folds() {
        // 3 gets of 0, 1, 2 in that order, along; 0 gets of 3 against, for each arc that leads to 3.
        int[][] arcs = {{2, 3}, {1, 3}, {0, 3}, {0, 3}};
        VertexLanguage x = begun(4, arcs, "column w;fold s:sum;fold l:least;fold m:most;fold f:first;node r:int=0;"
            + "global a:sum;global b:least;global c:most;global d:first;"
            + "start{send s 2147483647 along;send l id*7-3 along;send m id*7-3 along;send f arc.w along;"
            + "send f arc.w+100 against;give a 2147483647;give b 5-id;give c 5-id;give d id+40;}"
            + "round{r=s+l+m+f;}");
        for (int arc = 0; arc < 4; arc++) {
            x.weight(arc, 0, arc + 10);
        }
        x.begin(0);
        x.run(1);
        Bench.due("sum wraps", x.message(3, 0), -4);
        Bench.due("four of it", x.messages(3, 0), 4);
        Bench.due("least", x.message(3, 1), -3);
        Bench.due("most", x.message(3, 2), 11);
        Bench.due("first: of node 0, arc 2", x.message(3, 3), 12);
        Bench.due("first, against", x.message(0, 3), 112);
        Bench.due("two of it", x.messages(0, 3), 2);
        Bench.due("first, against", x.message(2, 3), 110);
        Bench.due("one of it", x.messages(2, 3), 1);
        Bench.due("none of sum", x.messages(2, 0), 0);
        Bench.due("messages under way", x.told(2), 20);
        Bench.due("global sum wraps", x.global(0), -4);
        Bench.due("global least", x.global(1), 2);
        Bench.due("global most", x.global(2), 5);
        Bench.due("global first", x.global(3), 40);
        x.run(1);
        Bench.due("read as folded", x.state(3, 0), -4 - 3 + 11 + 12);
        Bench.due("read where nothing came but first", x.state(2, 0), Integer.MAX_VALUE + Integer.MIN_VALUE + 110);
        Bench.due("nothing is under way", x.told(2), 0);
        Bench.due("least of nothing", x.message(3, 1), Integer.MAX_VALUE);
        Bench.due("global of nothing", x.global(2), Integer.MIN_VALUE);
    }

    private static void boolFolds() {
        int[][] arcs = {{0, 2}, {1, 2}, {0, 1}};
        VertexLanguage x = begun(3, arcs, "fold a:all;fold s:some;global ga:all;global gs:some;node h:bool=false;"
            + "start{send a id==0 along;send s id==0 along;give ga id<2;give gs id==2;}round{h=has a;}");
        x.run(1);
        Bench.due("all of true, false", x.message(2, 0), 0);
        Bench.due("all of true", x.message(1, 0), 1);
        Bench.due("all of nothing", x.message(0, 0), 1);
        Bench.due("some of true, false", x.message(2, 1), 1);
        Bench.due("some of true", x.message(1, 1), 1);
        Bench.due("some of nothing", x.message(0, 1), 0);
        Bench.due("messages", x.messages(2, 1), 2);
        Bench.due("all given", x.global(0), 0);
        Bench.due("some given", x.global(1), 1);
        x.run(1);
        Bench.due("has", x.state(2, 0), 1);
        Bench.due("has not", x.state(0, 0), 0);
        Bench.due("all of none given", x.global(0), 1);
        Bench.due("some of none given", x.global(1), 0);
    }

    private static void nothing() {
        VertexLanguage x = begun(1, new int[0][], "fold a:sum;fold b:least;fold c:most;fold d:first;global e:all;global f:some;"
            + "global g:least;global h:most;start{}round{}");
        int[] folds = {0, Integer.MAX_VALUE, Integer.MIN_VALUE, 0};
        int[] globals = {1, 0, Integer.MAX_VALUE, Integer.MIN_VALUE};
        for (int turn = 0; turn < 2; turn++) {
            for (int k = 0; k < 4; k++) {
                Bench.due("fold of nothing", x.message(0, k), folds[k]);
                Bench.due("no messages", x.messages(0, k), 0);
                Bench.due("global of nothing", x.global(k), globals[k]);
            }
            x.run(1);
        }
    }

    private static void wrongNumbers() {
        VertexLanguage x = begun(2, new int[][] {{0, 1}}, "node a:int=7;node b:int=8;fold f:least;global g:least;start{halt;}round{}");
        x.run(1);
        for (int wrong : new int[] {-1, 2, 40, Integer.MIN_VALUE, Integer.MAX_VALUE}) {
            Bench.due("state of no node", x.state(wrong, 0), 0);
            Bench.due("no state", x.state(0, wrong), 0);
            Bench.due("message of no node", x.message(wrong, 0), 0);
            Bench.due("messages of no node", x.messages(wrong, 0), -1);
            Bench.due("halted of no node", x.halted(wrong), -1);
        }
        for (int wrong : new int[] {-1, 1, 4, Integer.MIN_VALUE, Integer.MAX_VALUE}) {
            Bench.due("message of no fold", x.message(0, wrong), 0);
            Bench.due("messages of no fold", x.messages(0, wrong), -1);
            Bench.due("no global", x.global(wrong), 0);
        }
        Bench.due("halted", x.halted(1), 1);
        x.nodes(2);
        Bench.due("no RUN: state", x.state(0, 0), 0);
        Bench.due("no RUN: message", x.message(0, 0), 0);
        Bench.due("no RUN: messages", x.messages(0, 0), -1);
        Bench.due("no RUN: global", x.global(0), 0);
        Bench.due("no RUN: halted", x.halted(0), -1);
    }

    /** What a larger program and graph left is not to be seen. */
    private static void behindALargerProgram() {
        VertexLanguage x = begun(3, new int[][] {{0, 1}, {0, 1}, {1, 2}}, "node a:int=7;node b:int=8;fold e:least;fold f:least;"
            + "global g:least;global h:least;start{send e 1 along;send f 1 along;halt;}round{}");
        x.run(1);
        Bench.read(x, "node a:int=9;fold f:sum;global h:sum;start{}round{a=degree*10+indegree;}");
        x.begin(1);
        Bench.due("no second state", x.state(0, 1), 0);
        Bench.due("no second fold", x.message(1, 1), 0);
        Bench.due("no second global", x.global(1), 0);
        Bench.due("nothing has come", x.message(1, 0), 0);
        Bench.due("nothing is under way", x.told(2), 0);
        Bench.due("nobody has halted", x.told(3), 0);
        x.nodes(2);
        x.arc(1, 0);
        x.begin(1);
        x.run(2);
        Bench.due("degrees of 0", x.state(0, 0), 1);
        Bench.due("degrees of 1", x.state(1, 0), 10);
        Bench.due("a weight of no arc", x.weight(1, 0, 5), 0);
        Bench.due("and again", x.weight(1, 0, 6), 0);
    }
}
