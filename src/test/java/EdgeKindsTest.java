/** The edges of the KINDS and of FAULT 5: each place where a kind is asked for, and where any is taken. */
public final class EdgeKindsTest {
    private static final String TOLD = "column w;node i:int=1;node b:bool=true;fold f:sum;fold p:some;global g:sum;global q:all;";

    // Bases of each kind; all but arc . w can stand in any exp.
    private static final String[] INTS = {"1", "i", "f", "g", "id", "turn", "nodes", "degree", "indegree", "draw(1)",
        "if(b,1,2)", "(1)", "(i+1)", "-1"};
    private static final String[] BOOLS = {"true", "false", "b", "p", "q", "has f", "has p", "if(b,b,b)", "(b)", "(i<1)",
        "(b||b)", "!b"};

    private EdgeKindsTest() { }

    public static void main(String[] args) {
        states();
        lets();
        folds();
        globals();
        waysOfFolds();
        boolOperators();
        equal();
        comparing();
        sums();
        negations();
        draws();
        conditions();
        choices();
        anyKind();
        anyInChoices();
        anyOfHasAndArc();
        placeOfOperand();
        Bench.finish();
    }

    private static void inStart(String block) {
        VertexLanguage x = new VertexLanguage();
        String text = TOLD + "start{" + block + "}round{}";
        int answer = Bench.read(x, text);
        Bench.due("program() of [" + text + "] is good", answer >= 0 ? 0 : answer, 0);
    }

    private static void bad(String block) {
        Edge.bad(5, TOLD + "start{" + block + "}round{}");
    }

    private static void bad(int fault, String block) {
        Edge.bad(fault, TOLD + "start{" + block + "}round{}");
    }

    /** In the place of @ an int can stand, a bool is to blame. */
    private static void intsAt(String block) {
        for (String exp : INTS) {
            inStart(block.replace("@", exp));
        }
        for (String exp : BOOLS) {
            bad(block.replace("@", "^" + exp));
        }
    }

    private static void boolsAt(String block) {
        for (String exp : BOOLS) {
            inStart(block.replace("@", exp));
        }
        for (String exp : INTS) {
            bad(block.replace("@", "^" + exp));
        }
    }

    private static void states() {
        Bench.sentence("A state .. gets its own kind");
        intsAt("i=@;");
        boolsAt("b=@;");
    }

    private static void lets() {
        Bench.sentence("A let has that of its exp; a .. let .. gets its own kind");
        for (String exp : INTS) {
            inStart("let a=" + exp + ";i=a;a=2;");
            bad("let a=" + exp + ";b=^a;");
            bad("let a=" + exp + ";a=^true;");
        }
        for (String exp : BOOLS) {
            inStart("let a=" + exp + ";b=a;a=true;");
            bad("let a=" + exp + ";i=^a;");
            bad("let a=" + exp + ";a=^2;");
        }
        inStart("let a=1<2;let c=a;b=c;");
        bad("let a=1+2;let c=a;b=^c;");
        // Each let of a NAME has its own.
        inStart("if b{let a=1;i=a;}let a=true;b=a;");
        bad("if b{let a=1;i=a;}let a=true;i=^a;");
    }

    private static void folds() {
        Bench.sentence("A .. fold .. gets its own kind");
        intsAt("send f @ along;");
        boolsAt("send p @ against;");
        inStart("send f arc.w along;");
        bad("send p ^arc.w along;");
    }

    private static void globals() {
        Bench.sentence("A .. global gets its own kind");
        intsAt("give g @;");
        boolsAt("give q @;");
    }

    private static void waysOfFolds() {
        Bench.sentence("Folds and globals: 'all', 'some' bool, others int");
        for (String way : new String[] {"sum", "least", "most", "first", "all", "some"}) {
            boolean isBool = way.equals("all") || way.equals("some");
            String right = isBool ? "true" : "1";
            String wrong = isBool ? "1" : "true";
            for (String sort : new String[] {"fold", "global"}) {
                String told = sort + " x:" + way + ";start{";
                String put = sort.equals("fold") ? "send x " : "give x ";
                String end = sort.equals("fold") ? " along;}round{}" : ";}round{}";
                Edge.good(1, told + put + right + end);
                Edge.bad(5, told + put + "^" + wrong + end);
                Edge.good(2, told + "let a=x;a=" + right + ";}round{}");
                Edge.bad(5, told + "let a=x;a=^" + wrong + ";}round{}");
            }
        }
    }

    private static void boolOperators() {
        Bench.sentence("&& || ! of bools, a bool");
        for (String sign : new String[] {"&&", "||"}) {
            boolsAt("b=@" + sign + "b;");
            boolsAt("b=b" + sign + "@;");
            boolsAt("b=b" + sign + "b" + sign + "@;");
            bad("i=^b" + sign + "b;");
        }
        boolsAt("b=!@;");
        bad("i=^!b;");
        bad("b=^i&&i;");
        bad("b=^i||i;");
    }

    private static void equal() {
        Bench.sentence("== != of two of one kind (the second one like the first) .. a bool");
        for (String sign : new String[] {"==", "!="}) {
            intsAt("b=1" + sign + "@;");
            boolsAt("b=true" + sign + "@;");
            for (String exp : INTS) {
                inStart("b=" + exp + sign + "i;");
                bad("b=" + exp + sign + "^b;");
            }
            for (String exp : BOOLS) {
                inStart("b=" + exp + sign + "b;");
                bad("b=" + exp + sign + "^i;");
            }
            bad("i=^i" + sign + "i;");
            bad("i=^b" + sign + "b;");
        }
    }

    private static void comparing() {
        Bench.sentence("others of comparing two ints, a bool");
        for (String sign : new String[] {"<", "<=", ">", ">="}) {
            intsAt("b=@" + sign + "1;");
            intsAt("b=1" + sign + "@;");
            bad("b=^b" + sign + "b;");
            bad("i=^i" + sign + "i;");
        }
    }

    private static void sums() {
        Bench.sentence("the rest ints (+ - * / %)");
        for (String sign : new String[] {"+", "-", "*", "/", "%"}) {
            intsAt("i=@" + sign + "1;");
            intsAt("i=1" + sign + "@;");
            intsAt("i=1" + sign + "2" + sign + "@;");
            bad("b=^1" + sign + "1;");
            bad("i=^b" + sign + "b;");
        }
    }

    private static void negations() {
        Bench.sentence("the rest ints (- of one)");
        intsAt("i=-@;");
        intsAt("i=--@;");
        bad("b=^-1;");
        bad("b=^-b;");
        bad("i=-^!b;");
        bad("b=!^-1;");
    }

    private static void draws() {
        Bench.sentence("the rest ints (draw)");
        intsAt("i=draw(@);");
        bad("b=^draw(1);");
        for (String exp : new String[] {"id", "turn", "nodes", "degree", "indegree", "7"}) {
            inStart("i=" + exp + ";");
            bad("b=^" + exp + ";");
        }
        bad("i=^has f;");
    }

    private static void conditions() {
        Bench.sentence("if, conditions: a bool");
        boolsAt("if @{}");
        boolsAt("if @{}else{}");
        boolsAt("i=if(@,1,2);");
        boolsAt("b=if(@,b,b);");
    }

    private static void choices() {
        Bench.sentence("the last two parts of an if ( , , ) have one kind (the third like the second), that is its");
        intsAt("i=if(b,1,@);");
        boolsAt("b=if(b,true,@);");
        for (String exp : INTS) {
            inStart("i=if(b," + exp + ",1);");
            bad("b=^if(b," + exp + ",1);");
            bad("i=if(b," + exp + ",^b);");
        }
        for (String exp : BOOLS) {
            inStart("b=if(b," + exp + ",b);");
            bad("i=^if(b," + exp + ",b);");
            bad("b=if(b," + exp + ",^1);");
        }
        // Its kind is the second's, even where the third is to blame.
        bad("i=^if(b,b,1);");
        bad("b=^if(b,1,b);");
    }

    private static void anyKind() {
        Bench.sentence("a NAME with FAULT 4 .. of any KIND");
        for (String place : new String[] {"i=@;", "b=@;", "i=-@;", "b=!@;", "i=1+@;", "b=b&&@;", "b=1<@;", "b=1==@;", "b=b==@;",
            "i=draw(@);", "if @{}", "i=if(@,1,2);", "i=if(b,1,@);", "b=if(b,b,@);", "send f @ along;", "send p @ along;",
            "give g @;", "give q @;"}) {
            bad(4, place.replace("@", "^z"));
            bad(4, place.replace("@", "^w"));
            bad(4, place.replace("@", "(^z)"));
        }
        // Nothing behind it is to blame for not being like it.
        bad(4, "b=^z==1;");
        bad(4, "b=^z==b;");
        bad(4, "let a=^z;i=a;b=a;");
        // What is made of it has its own kind.
        bad(5, "b=^1+z;");
        bad(5, "i=^b||z;");
        bad(5, "b=^-z;");
        bad(5, "i=^!z;");
        bad(5, "b=^draw(z);");
        bad(5, "i=^(z==z);");
        bad(5, "i=^(z<z);");
    }

    private static void anyInChoices() {
        Bench.sentence("that is its (the second's; if that is any, the third's)");
        bad(4, "i=if(b,^z,1);");
        bad(4, "b=if(b,^z,b);");
        bad(5, "b=^if(b,z,1);");
        bad(5, "i=^if(b,z,b);");
        bad(5, "b=^if(b,1,z);");
        bad(5, "i=^if(b,b,z);");
        bad(4, "i=if(b,^z,z);");
        bad(4, "b=if(b,^z,z);");
        bad(4, "i=if(b,if(b,^z,z),z);");
        bad(5, "b=^if(b,if(b,z,1),z);");
        bad(5, "i=^if(b,z,if(b,z,b));");
    }

    private static void anyOfHasAndArc() {
        Bench.sentence("has, arc . with it, are of any KIND");
        bad(4, "i=has ^z;");
        bad(4, "b=has ^z;");
        bad(4, "i=1+has ^g;");
        bad(4, "b=1==has ^w;");
        bad(4, "b=arc.^w;");
        bad(4, "i=arc.^w;");
        bad(4, "send p arc.^z along;");
        bad(4, "send f arc.^z along;");
        bad(4, "if arc.^w{}");
        // Without it they have their own.
        bad(5, "i=^has f;");
        bad(5, "send p ^arc.w along;");
        bad(5, "send p b&&^arc.w along;");
    }

    private static void placeOfOperand() {
        Bench.sentence("5 at the first TOKEN of an exp (or operand)");
        bad("b=^i+1;");
        bad("b=^(i+1);");
        bad("b=^((i));");
        bad("b=^-(i);");
        bad("b=b&&^i+1;");
        bad("b=b&&^(i)+1;");
        bad("b=b&&^i*2-1||b;");
        bad("b=^i+1&&b;");
        bad("b=^i*2+1||b&&b;");
        bad("i=1+^(b);");
        bad("i=1+^(b)*2;");
        bad("i=2*^(b&&b);");
        bad("i=^b*2+1;");
        bad("i=1-^b%2;");
        bad("b=1<^(b);");
        bad("b=1+1==^b;");
        bad("b=b==^1+1;");
        bad("i=draw(^(b));");
        bad("if ^(1){}");
        bad("if ^1+1{}");
        // The least of two places.
        bad("i=^b+b;");
        bad("b=^1&&2;");
        bad("b=^b<b;");
        bad("i=if(^1,2,b);");
    }
}
