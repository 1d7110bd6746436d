/** The edges of FAULTS 3 and 4: which NAMES are told already, which are there, where a let can be seen. */
public final class EdgeNamesTest {
    private static final String TOLD = "column w;node i:int=1;node b:bool=true;fold f:sum;fold p:some;global g:sum;global q:all;";

    // A way to tell each sort that is told ahead of start; @ stands for the NAME.
    private static final String[] TELLS = {"column @;", "node @:int=1;", "node @:bool=true;", "fold @:sum;", "fold @:all;",
        "global @:sum;", "global @:some;"};

    private EdgeNamesTest() { }

    public static void main(String[] args) {
        oneLot();
        letsInTheLot();
        letsToldAgain();
        letsInInnerBlocks();
        namesNotThere();
        inExps();
        behindSet();
        behindArc();
        arcInASendAlone();
        behindHas();
        behindSend();
        behindGive();
        letSeenFrom();
        letSeenTo();
        letSeenInside();
        Bench.finish();
    }

    private static void inStart(int statements, String block) {
        Edge.good(statements, TOLD + "start{" + block + "}round{}");
    }

    private static void badInStart(int fault, String block) {
        Edge.bad(fault, TOLD + "start{" + block + "}round{}");
    }

    // ---- FAULT 3

    private static void oneLot() {
        Bench.sentence("3 a NAME that is told already (columns, states, folds, globals .. are one lot)");
        for (String first : TELLS) {
            for (String second : TELLS) {
                String before = first.replace("@", "a");
                Edge.bad(3, before + second.replace("@", "^a") + "start{}round{}");
                Edge.bad(3, before + "column z;" + second.replace("@", "^a") + "start{}round{}");
                Edge.good(0, before + second.replace("@", "b") + "start{}round{}");
                Edge.good(0, before + second.replace("@", "A") + "start{}round{}");
                Edge.good(0, before + second.replace("@", "aa") + "start{}round{}");
                Edge.good(0, before.replace("a;", "ab;") + second.replace("@", "abc") + "start{}round{}");
            }
        }
    }

    private static void letsInTheLot() {
        Bench.sentence("3 .. (columns, states, folds, globals, lets that can be seen are one lot)");
        for (String first : TELLS) {
            String before = first.replace("@", "a");
            Edge.bad(3, before + "start{let ^a=1;}round{}");
            Edge.bad(3, before + "start{}round{let ^a=1;}");
            Edge.bad(3, before + "start{if true{let ^a=1;}}round{}");
            Edge.good(1, before + "start{let b=1;}round{}");
        }
        Edge.bad(3, "start{let a=1;let ^a=1;}round{}");
        Edge.bad(3, "start{}round{let a=1;let ^a=true;}");
        Edge.bad(3, "start{let a=1;let b=1;let ^a=1;}round{}");
        Edge.good(2, "start{let a=1;let b=1;}round{}");
    }

    private static void letsToldAgain() {
        Bench.sentence("told again behind its block a let may be");
        Edge.good(2, "start{let a=1;}round{let a=1;}");
        Edge.good(2, "start{let a=1;}round{let a=true;}");
        Edge.good(3, "start{if true{let a=1;}let a=true;}round{}");
        Edge.good(3, "start{if true{let a=1;}else{let a=true;}}round{}");
        Edge.good(3, "start{if true{}else{let a=1;}let a=true;}round{}");
        Edge.good(4, "start{loop 1{let a=1;}loop 1{let a=true;}}round{}");
        Edge.good(5, "start{loop 1{loop 1{let a=1;}let a=1;}let a=1;}round{}");
        Edge.bad(3, "start{loop 1{loop 1{let a=1;}let a=1;let ^a=1;}}round{}");
        Edge.bad(3, "start{loop 1{let a=1;}let a=true;let ^a=1;}round{}");
    }

    private static void letsInInnerBlocks() {
        Bench.sentence("3 a NAME that is told already (a let of a block around it can be seen)");
        Edge.bad(3, "start{let a=1;if true{let ^a=1;}}round{}");
        Edge.bad(3, "start{let a=1;if true{}else{let ^a=1;}}round{}");
        Edge.bad(3, "start{let a=1;loop 1{let ^a=1;}}round{}");
        Edge.bad(3, "start{loop 1{let a=1;loop 1{loop 1{let ^a=1;}}}}round{}");
        Edge.good(3, "start{if true{let a=1;}let a=1;}round{}");
    }

    // ---- FAULT 4

    private static void namesNotThere() {
        Bench.sentence("4 a NAME that is not there");
        badInStart(4, "^z=1;");
        badInStart(4, "i=^z;");
        badInStart(4, "let a=^z;");
        badInStart(4, "i=1+2*-(3+^z);");
        badInStart(4, "i=draw(^z);");
        badInStart(4, "i=if(b,1,^z);");
        badInStart(4, "if ^z{}");
        badInStart(4, "send ^z 1 along;");
        badInStart(4, "send f ^z along;");
        badInStart(4, "send f arc.^z along;");
        badInStart(4, "give ^z 1;");
        badInStart(4, "give g ^z;");
        badInStart(4, "b=has ^z;");
        badInStart(4, "^I=1;");
        badInStart(4, "^ii=1;");
        Edge.bad(4, TOLD + "start{}round{^z=1;}");
    }

    private static void inExps() {
        Bench.sentence("4 .. another sort than can stand there (an exp: states, lets, folds, globals)");
        inStart(4, "i=i;i=f;i=g;let a=i+f+g;");
        inStart(4, "b=b;b=p;b=q;let a=b&&p&&q;");
        inStart(2, "let a=1;i=a;");
        badInStart(4, "i=^w;");
        badInStart(4, "let a=^w;");
        badInStart(4, "send f ^w along;");
        badInStart(4, "send f 1+^w against;");
        badInStart(4, "give g ^w;");
        badInStart(4, "if ^w==1{}");
    }

    private static void behindSet() {
        Bench.sentence("4 .. (=: states, lets)");
        inStart(4, "i=1;b=true;let a=1;a=2;");
        for (String name : new String[] {"w", "f", "p", "g", "q"}) {
            badInStart(4, "^" + name + "=1;");
            badInStart(4, "^" + name + "=true;");
        }
    }

    private static void behindArc() {
        Bench.sentence("4 .. (arc: columns)");
        inStart(1, "send f arc.w along;");
        inStart(2, "let a=1;send f arc.w+a against;");
        for (String name : new String[] {"i", "b", "f", "p", "g", "q", "a", "z"}) {
            badInStart(4, "let a=1;send f arc.^" + name + " along;");
            badInStart(4, "let a=1;send p arc.^" + name + " against;");
        }
    }

    private static void arcInASendAlone() {
        Bench.sentence("arc: columns, in the exp of a send alone");
        inStart(1, "send f arc.w along;");
        inStart(1, "send f if(arc.w<0,-(arc.w),draw(arc.w))%arc.w against;");
        inStart(1, "send p !(arc.w==1)&&true along;");
        badInStart(4, "i=arc.^w;");
        badInStart(4, "let a=arc.^w;");
        badInStart(4, "give g arc.^w;");
        badInStart(4, "if arc.^w==1{}");
        badInStart(4, "if b{i=arc.^w;}");
        badInStart(4, "send f arc.w along;i=arc.^w;");
        badInStart(4, "send f arc.w along;give g arc.^w;");
        badInStart(4, "send f arc.w along;if arc.^w==1{}");
        Edge.bad(4, TOLD + "start{send f arc.w along;}round{i=arc.^w;}");
        // A FAULT in an earlier text leaves nothing behind.
        VertexLanguage x = new VertexLanguage();
        Bench.read(x, TOLD + "start{send f arc.w");
        Bench.due("program() behind a send that broke off", Bench.read(x, TOLD + "start{i=arc.w;}round{}"), -14);
    }

    private static void behindHas() {
        Bench.sentence("4 .. (has .. : folds)");
        inStart(2, "b=has f;b=has p;");
        for (String name : new String[] {"w", "i", "b", "g", "q", "a"}) {
            badInStart(4, "let a=true;b=has ^" + name + ";");
        }
    }

    private static void behindSend() {
        Bench.sentence("4 .. (.. send: folds)");
        inStart(2, "send f 1 along;send p true against;");
        for (String name : new String[] {"w", "i", "b", "g", "q", "a"}) {
            badInStart(4, "let a=1;send ^" + name + " 1 along;");
            badInStart(4, "let a=1;send ^" + name + " true against;");
        }
    }

    private static void behindGive() {
        Bench.sentence("4 .. (give: globals)");
        inStart(2, "give g 1;give q true;");
        for (String name : new String[] {"w", "i", "b", "f", "p", "a"}) {
            badInStart(4, "let a=1;give ^" + name + " 1;");
            badInStart(4, "let a=1;give ^" + name + " true;");
        }
    }

    // ---- where a let can be seen

    private static void letSeenFrom() {
        Bench.sentence("A let can be seen behind its ;");
        inStart(2, "let a=1;i=a;");
        badInStart(4, "let a=^a;");
        badInStart(4, "let a=1+^a;");
        badInStart(4, "i=^a;let a=1;");
        badInStart(4, "^a=1;let a=1;");
        badInStart(4, "loop 2{i=^a;let a=1;}");
        badInStart(4, "if b{i=^a;}let a=1;");
        inStart(2, "let a=1;let c=a;");
        // An earlier let can be read in the exp of a later one.
        Edge.leaves(6, "node n:int=0;start{let a=2;let c=a*3;n=c;}round{}");
    }

    private static void letSeenTo() {
        Bench.sentence("A let can be seen .. to the end of its block");
        inStart(3, "if b{let a=1;i=a;}");
        badInStart(4, "if b{let a=1;}i=^a;");
        badInStart(4, "if b{let a=1;}^a=1;");
        badInStart(4, "if b{let a=1;}else{i=^a;}");
        badInStart(4, "if b{}else{let a=1;}i=^a;");
        badInStart(4, "loop 1{let a=1;}i=^a;");
        badInStart(4, "loop 1{loop 1{let a=1;}i=^a;}");
        Edge.bad(4, TOLD + "start{let a=1;}round{i=^a;}");
        Edge.bad(4, TOLD + "start{let a=1;}round{^a=1;}");
        inStart(3, "let a=1;if b{}i=a;");
        inStart(4, "let a=1;if b{let c=1;}i=a;");
    }

    private static void letSeenInside() {
        Bench.sentence("A let can be seen .. (in the blocks inside its block too)");
        inStart(3, "let a=1;if b{i=a;}");
        inStart(3, "let a=1;if b{}else{i=a;}");
        inStart(5, "let a=1;loop 1{if a==1{loop 2{a=a+1;}}}");
        Edge.leaves(12, "node n:int=0;start{let a=2;loop 2{let c=a;if true{let d=c+1;a=a+d;}n=a+1;}}round{}");
    }
}
