import java.util.Random;

/** One object used again and again: nothing is left of the texts, the RUNS and the TURNS before. */
public final class EdgeAgainTest {
    private static final String WHOLE = "column w;node i:int=-3;node b:bool=true;fold f:sum;fold p:first;global g:all;global q:first;"
        + "start{let a=if((b),(1),draw((2)));send f(arc.w)+a along;if(b&&(has f||!(i<=2))){i=(i-1)-(2-3);}give g(b);give q id+5;}"
        + "round{if b==(i<0){b=!b;loop 2{i=(i*-2);}}else{loop 3{loop 1{let c=(i);i=c+f;}}}send p(i)against;give q i;if id==turn{halt;}}";
    private static final String PRINTED = "column w ; node i : int = - 3 ; node b : bool = true ; fold f : sum ; fold p : first ; "
        + "global g : all ; global q : first ; start { let a = if ( b , 1 , draw ( 2 ) ) ; send f arc . w + a along ; "
        + "if b && ( has f || ! ( i <= 2 ) ) { i = i - 1 - ( 2 - 3 ) ; } give g b ; give q id + 5 ; } "
        + "round { if b == ( i < 0 ) { b = ! b ; loop 2 { i = i * - 2 ; } } else { loop 3 { loop 1 { let c = i ; i = c + f ; } } } "
        + "send p i against ; give q i ; if id == turn { halt ; } }";
    private static final int STATEMENTS = 18;

    private EdgeAgainTest() { }

    public static void main(String[] args) {
        behindLongerTexts();
        fullToTheLastByte();
        bracketsOfOtherTexts();
        manyLongPrograms();
        behindBrokenTexts();
        kindsOfOtherTexts();
        statesOfOtherTexts();
        waysOfOtherTexts();
        nobodyHalted();
        beginsBehindManyTurns();
        firstOfEachTurn();
        foldsOfEachTurn();
        arcsOfOtherGraphs();
        Bench.finish();
    }

    // ---- texts

    private static void behindLongerTexts() {
        Bench.sentence("The tape .. is the program (no byte of a longer one before it)");
        for (char left : new char[] {'9', 'a', 'A', '=', '&', '|', ';', '}', ' ', '\n', '#', '@'}) {
            for (String last : new String[] {"1", "214748364", "2147483647", "a", "abcdefghijkl", "1=", "1<", "1>", "1!", "1&&",
                "1||", ""}) {
                String text = "start{let a=" + last;
                VertexLanguage x = Edge.reading(("" + left).repeat(300));
                Bench.due("program() of [" + text + "] behind " + left, Bench.read(x, text), -11);
                boolean broken = last.length() == 2 && !last.endsWith("<") && !last.endsWith(">");
                Bench.due("fault(0) of [" + text + "] behind " + left, x.fault(0), broken ? text.length() - 1 : text.length());
                Bench.due("fault(1) of [" + text + "] behind " + left, x.fault(1), 1);
            }
            VertexLanguage x = Edge.reading(("" + left).repeat(300));
            Bench.due("program() behind " + left, Bench.read(x, "start{}round{}"), 0);
            Bench.due("print(-1) behind " + left, x.print(-1), 19);
            Bench.due("program() of a remark behind " + left, Bench.read(x, "start{}round{}#"), 0);
        }
    }

    private static void fullToTheLastByte() {
        Bench.sentence("FULL: above 4,000 (a text of 4,000 is read to its last byte)");
        for (String last : new String[] {"1", "99", "0", "2147483647", "a", "ab1", "abcdefghijkl", "1<", "1>", "1==", "1!=", "1<=",
            "1>=", "true&&", "true||", "1+", "-", "!", "(", "draw", "if", "1;", "1;#", "1;}", "1 "}) {
            String text = "start{let a=" + last;
            Edge.bad(1, " ".repeat(4000 - text.length()) + text + "^");
        }
        for (String last : new String[] {"1&", "1|", "1!", "1=", "1@", "abcdefghijklm", "2147483648", "1.", "1" + (char) 255}) {
            String text = "start{let a=" + last;
            int place = last.length() > 2 ? 4000 - last.length() : 3999;
            Edge.bad(1, place, " ".repeat(4000 - text.length()) + text);
        }
        Edge.good(1, " ".repeat(4000 - 22) + "start{}round{let a=1;}");
        Edge.good(1, " ".repeat(4000 - 23) + "start{}round{let a=1;}#");
        Edge.good(1, " ".repeat(4000 - 23) + "start{}round{let a=1;}\n");
        Edge.bad(3, " ".repeat(4000 - 30) + "start{}round{let a=1;let ^a=1;}");
    }

    private static void bracketsOfOtherTexts() {
        Bench.sentence("Byte i of what the program is PRINTED as (whatever ( ) the one before had)");
        String dropping = "start{let a=" + "(((((((((1)))))))))" + "+((1))".repeat(20) + ";}round{}";
        String keeping = "start{let a=1-(1-(1-(1-(1-(1-(1-1))))));let c=2*(1+2)*(3+4)-(5-6)-(7-(8-9));}round{let d=-(1*2);}";
        String wanted = "start { let a = 1 - ( 1 - ( 1 - ( 1 - ( 1 - ( 1 - ( 1 - 1 ) ) ) ) ) ) ; "
            + "let c = 2 * ( 1 + 2 ) * ( 3 + 4 ) - ( 5 - 6 ) - ( 7 - ( 8 - 9 ) ) ; } round { let d = - ( 1 * 2 ) ; }";
        for (int signs = 0; signs < 3; signs++) {
            // Other TOKENS stand where the ( ) were.
            String before = dropping.replace("let a=", "let a=" + "-".repeat(signs));
            VertexLanguage x = new VertexLanguage();
            Bench.due("program() of [" + before + "]", Bench.read(x, before), 1);
            Bench.due("program() of [" + keeping + "]", Bench.read(x, keeping), 3);
            Bench.due("printed behind [" + before + "]", Bench.printed(x), wanted);
        }
        VertexLanguage x = Edge.reading(dropping);
        Bench.read(x, dropping.replace(";}round", ""));
        Bench.read(x, "start{if true{halt;}else{loop 3{let a=1;a=2;a=a-1;}}halt;halt;halt;halt;}round{}");
        Bench.due("printed behind one with a FAULT", Bench.printed(x),
            "start { if true { halt ; } else { loop 3 { let a = 1 ; a = 2 ; a = a - 1 ; } } halt ; halt ; halt ; halt ; } round { }");
        // And the other way round: what was kept is dropped now.
        x = Edge.reading("start{let a=2*(1+1);}round{}");
        Bench.read(x, "start{let a=2+(1*1);}round{}");
        Bench.due("printed", Bench.printed(x), "start { let a = 2 + 1 * 1 ; } round { }");
        Bench.read(x, "start{let a=2*(1+1);}round{}");
        Bench.due("printed", Bench.printed(x), "start { let a = 2 * ( 1 + 1 ) ; } round { }");
    }

    private static void manyLongPrograms() {
        Bench.sentence("The tape .. is the program (however many there were before it)");
        String ones = "node n:int=0;start{n=-1" + "+1".repeat(480) + ";}round{n=n+1;}";
        String drops = "node n:int=0;start{}round{" + "n=n+1;".repeat(119) + "}";
        for (int before = 0; before <= 6; before++) {
            VertexLanguage x = new VertexLanguage();
            for (int i = 0; i < before; i++) {
                Bench.due("program() " + i, Bench.read(x, i % 2 == 0 ? ones : drops), i % 2 == 0 ? 2 : 119);
            }
            Bench.due("program()", Bench.read(x, ones), 2);
            Bench.due("begin(1)", x.begin(1), 1);
            Bench.due("run(1) behind " + before, x.run(1), 1);
            Bench.due("state(0, 0) behind " + before, x.state(0, 0), 479);
            Bench.due("told(9) behind " + before, x.told(9), 1 + 2 + 480 * 2);
            Bench.due("run(1) behind " + before, x.run(1), 1);
            Bench.due("state(0, 0) behind " + before, x.state(0, 0), 480);
            Bench.due("told(9) behind " + before, x.told(9), 4);
        }
        // Short ones, some of which have FAULTS.
        VertexLanguage x = new VertexLanguage();
        for (int i = 0; i < 90; i++) {
            Bench.read(x, i % 3 == 0 ? "start{halt;" : "node n:int=" + i + ";start{n=n+1;}round{}");
        }
        x.begin(1);
        x.run(1);
        Bench.due("state(0, 0) behind ninety texts", x.state(0, 0), 90);
    }

    private static String seen(VertexLanguage x) {
        StringBuilder s = new StringBuilder();
        for (int what = 0; what < 10; what++) {
            s.append(x.told(what)).append(' ');
        }
        for (int node = 0; node < 3; node++) {
            s.append("| ").append(x.halted(node)).append(' ');
            for (int k = 0; k < 2; k++) {
                s.append(x.state(node, k)).append(' ').append(x.message(node, k)).append(' ').append(x.messages(node, k)).append(' ');
            }
        }
        return s.append("| ").append(x.global(0)).append(' ').append(x.global(1)).toString();
    }

    private static String ofRun(VertexLanguage x) {
        x.nodes(3);
        x.arc(0, 1);
        x.arc(1, 2);
        x.arc(0, 2);
        x.weight(2, 0, 7);
        x.begin(9);
        StringBuilder s = new StringBuilder();
        for (int turn = 0; turn < 4; turn++) {
            s.append(x.run(1)).append(": ").append(seen(x)).append('\n');
        }
        return s.toString();
    }

    private static void behindBrokenTexts() {
        Bench.sentence("The tape .. is the program (behind a text that broke off anywhere)");
        VertexLanguage fresh = Edge.reading(WHOLE);
        String want = ofRun(fresh);
        Bench.due("printed", Edge.printed(WHOLE), PRINTED);
        for (int size = 0; size < WHOLE.length(); size++) {
            VertexLanguage x = Edge.reading(WHOLE.substring(0, size));
            Bench.due("statements behind a text that broke off at " + size, Bench.read(x, WHOLE), STATEMENTS);
            Bench.due("fault(0)", x.fault(0), -2);
            Bench.due("a RUN behind a text that broke off at " + size, ofRun(x), want);
            Bench.due("print(-1) behind it", x.print(-1), PRINTED.length());
            for (int i = 0; i < 60; i++) {
                int at = (i * 7 + size * 31) % PRINTED.length();
                Bench.due("print(" + at + ") behind a text that broke off at " + size, x.print(at), PRINTED.charAt(at));
            }
        }
    }

    private static void kindsOfOtherTexts() {
        Bench.sentence("KINDS (of this text, whatever its NAMES were in the one before)");
        VertexLanguage x = Edge.reading("node a:bool=true;fold b:all;global c:some;start{let d=true;a=d;}round{}");
        Bench.due("program()", Bench.read(x, "node a:int=1;fold b:sum;global c:least;start{let d=1;a=d+a+b+c;}round{}"), 2);
        Bench.due("program()", Bench.read(x, "node a:bool=true;fold b:all;global c:some;start{let d=true;a=d&&a&&b&&c;}round{}"), 2);
        Bench.due("a NAME of before", Bench.read(x, "node a:bool=true;start{a=b;}round{}"), -14);
        Bench.due("a let of before", Bench.read(x, "node a:bool=true;start{a=d;}round{}"), -14);
        Bench.due("told again", Bench.read(x, "column a;column b;column c;column d;start{let e=1;}round{}"), 1);
        Bench.due("four more", Bench.read(x, "column a;column b;column c;column e;start{let d=1;}round{}"), 1);
        Bench.read(x, "start{let a=1;let b=1;let c=1;let d=1;let e=1;let f=1;let g=1;let h=1;let i=1;}round{}");
        Bench.due("eight lets behind nine", Bench.read(x, "start{let a=1;let b=1;let c=1;let d=1;let e=1;let f=1;let g=1;let h=1;}round{}"), 8);
        Bench.read(x, "start{" + "halt;".repeat(121) + "}round{}");
        Bench.due("one statement behind too many", Bench.read(x, "start{halt;}round{}"), 1);
        Bench.due("count(4)", x.count(4), 1);
    }

    private static void statesOfOtherTexts() {
        Bench.sentence("all states as told (in this text)");
        VertexLanguage x = Edge.begun("node a:int=5;node b:bool=true;node c:int=-9;start{a=8;c=8;}round{}", 3);
        x.run(4);
        Bench.read(x, "node z:bool=false;node y:int=0;node v:int=2147483647;node u:bool=true;start{}round{}");
        x.begin(1);
        int[] want = {0, 0, Integer.MAX_VALUE, 1};
        for (int node = 0; node < 3; node++) {
            for (int k = 0; k < 4; k++) {
                Bench.due("state(" + node + ", " + k + ")", x.state(node, k), want[k]);
            }
        }
    }

    private static void waysOfOtherTexts() {
        Bench.sentence("folded (as this text tells)");
        String[] ways = {"sum", "least", "most", "first"};
        int[] folded = {9, 2, 4, 3};
        int[] nothing = {0, Integer.MAX_VALUE, Integer.MIN_VALUE, 0};
        VertexLanguage x = new VertexLanguage();
        x.nodes(2);
        x.arc(0, 1);
        for (int i = 0; i < 12; i++) {
            int k = i * 7 % 4;
            Bench.read(x, "fold f:" + ways[k] + ";global g:" + ways[k] + ";start{if id==0{send f 3 along;send f 2 along;send f 4 along;"
                + "give g 3;give g 2;give g 4;}}round{}");
            x.begin(1);
            Bench.due("message(1, 0) ahead, " + ways[k], x.message(1, 0), nothing[k]);
            Bench.due("global(0) ahead, " + ways[k], x.global(0), nothing[k]);
            x.run(1);
            Bench.due("message(1, 0), " + ways[k], x.message(1, 0), folded[k]);
            Bench.due("message(0, 0), " + ways[k], x.message(0, 0), nothing[k]);
            Bench.due("global(0), " + ways[k], x.global(0), folded[k]);
        }
    }

    // ---- RUNS and TURNS

    private static void nobodyHalted() {
        Bench.sentence("A RUN begins .. nobody halted (however many TURNS were done before)");
        for (int turns = 1; turns <= 20; turns++) {
            VertexLanguage x = Edge.begun("start{if id%2==1{halt;}}round{if id==0&&turn>17{halt;}}", 5);
            x.run(turns);
            Bench.due("halted(1) behind " + turns, x.halted(1), 1);
            Bench.due("told(3) behind " + turns, x.told(3), turns > 18 ? 3 : 2);
            for (int again = 0; again < 3; again++) {
                x.begin(again);
                Bench.due("told(3)", x.told(3), 0);
                for (int node = 0; node < 5; node++) {
                    Bench.due("halted(" + node + ") behind " + turns + " TURNS and begin()", x.halted(node), 0);
                }
                Bench.due("run(1)", x.run(1), 1);
                Bench.due("told(9): all five do something", x.told(9), 5 * 6 + 2);
                x.run(turns);
            }
        }
    }

    private static void beginsBehindManyTurns() {
        Bench.sentence("A RUN begins (again: it is as on a new object)");
        String want = ofRun(Edge.reading(WHOLE));
        for (int turns = 1; turns <= 20; turns++) {
            VertexLanguage x = Edge.reading(WHOLE);
            x.nodes(4);
            x.arc(3, 2);
            x.arc(2, 3);
            x.begin(turns);
            x.run(turns);
            for (int i = 0; i < turns % 4; i++) {
                x.undo();
            }
            Bench.due("a RUN behind one of " + turns + " TURNS", ofRun(x), want);
        }
    }

    private static void firstOfEachTurn() {
        Bench.sentence("What it reads of folds and globals is what came, was given, in the turn before (first, in each TURN)");
        VertexLanguage x = Edge.begun("node n:int=0;node m:int=0;fold f:first;global g:first;"
            + "start{send f 100+id along;send f 1 along;give g 200+id;give g 2;}"
            + "round{n=f;m=g;send f turn*1000+100+id along;send f 3 along;give g turn*1000+200+id;give g 4;}", 3, 0, 1, 1, 2, 2, 0);
        for (int turn = 0; turn < 24; turn++) {
            Bench.due("run(1)", x.run(1), 1);
            for (int node = 0; node < 3; node++) {
                Bench.due("message of TURN " + turn, x.message((node + 1) % 3, 0), turn * 1000 + 100 + node);
                if (turn > 0) {
                    Bench.due("read in TURN " + turn, x.state((node + 1) % 3, 0), (turn - 1) * 1000 + 100 + node);
                    Bench.due("read in TURN " + turn, x.state(node, 1), (turn - 1) * 1000 + 200);
                }
            }
            Bench.due("global of TURN " + turn, x.global(0), turn * 1000 + 200);
        }
    }

    /** Which TURNS something is sent in differs each time that rows are used again. */
    private static void foldsOfEachTurn() {
        Bench.sentence("is what came, was given, in the turn before (or nothing, in each TURN)");
        String[] ways = {"sum", "least", "most", "first", "all", "some"};
        int[] nothing = {0, Integer.MAX_VALUE, Integer.MIN_VALUE, 0, 1, 0};
        for (int k = 0; k < ways.length; k++) {
            boolean isBool = k >= 4;
            String exp = isBool ? "turn%2==0" : "turn-9";
            VertexLanguage x = Edge.begun("fold f:" + ways[k] + ";global g:" + ways[k] + ";start{send f " + exp + " along;give g " + exp
                + ";}round{if turn%5!=0&&turn%3!=1{send f " + exp + " along;give g " + exp + ";}}", 1, 0, 0);
            for (int turn = 0; turn < 30; turn++) {
                x.run(1);
                boolean sent = turn == 0 || turn % 5 != 0 && turn % 3 != 1;
                int value = isBool ? 1 - turn % 2 : turn - 9;
                int want = sent ? value : nothing[k];
                Bench.due("message(0, 0), " + ways[k] + ", TURN " + turn, x.message(0, 0), want);
                Bench.due("messages(0, 0), " + ways[k] + ", TURN " + turn, x.messages(0, 0), sent ? 1 : 0);
                Bench.due("global(0), " + ways[k] + ", TURN " + turn, x.global(0), want);
                Bench.due("told(2), " + ways[k] + ", TURN " + turn, x.told(2), sent ? 1 : 0);
            }
        }
    }

    // ---- graphs

    private static void arcsOfOtherGraphs() {
        Bench.sentence("all arcs go (the next ones are alone)");
        Random random = new Random(5);
        VertexLanguage x = Edge.reading("column a;column b;column c;column d;node o:int=0;node e:int=0;fold f:sum;fold h:sum;"
            + "start{o=degree;e=indegree;send f id+1 along;send h arc.a+arc.b+arc.c+arc.d+1 against;}round{}");
        for (int graph = 0; graph < 12; graph++) {
            int nodes = 2 + random.nextInt(3);
            int[] out = new int[nodes];
            int[] in = new int[nodes];
            int[] sums = new int[nodes];
            x.nodes(nodes);
            for (int arc = 0; arc < 5; arc++) {
                int from = random.nextInt(nodes);
                int to = random.nextInt(nodes);
                Bench.due("arc", x.arc(from, to), arc);
                out[from]++;
                in[to]++;
                sums[to] += from + 1;
            }
            x.begin(graph);
            x.run(1);
            for (int node = 0; node < nodes; node++) {
                Bench.due("degree", x.state(node, 0), out[node]);
                Bench.due("indegree", x.state(node, 1), in[node]);
                Bench.due("along", x.message(node, 0), sums[node]);
                Bench.due("against, each number 0", x.message(node, 1), out[node]);
            }
            for (int arc = 0; arc < 5; arc++) {
                x.weight(arc, graph % 4, 1000);
            }
        }
    }
}
