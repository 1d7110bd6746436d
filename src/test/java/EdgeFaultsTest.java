/** The edges of FAULTS 1 and 2, and which of several FAULTS counts. */
public final class EdgeFaultsTest {
    private static final String TOLD = "column w;node i:int=1;node b:bool=true;fold f:sum;global g:sum;";
    private static final String END = "start{}round{}";

    private EdgeFaultsTest() { }

    public static void main(String[] args) {
        firstOfOneAndTwo();
        ofOneToken();
        oneAndTwoAheadOfOthers();
        leastPlace();
        leastNumber();
        columns();
        states();
        folds();
        globals();
        eachSortForItself();
        lets();
        letsThatCanBeSeen();
        statements();
        statementsAtTheirFirstToken();
        blocksWithin();
        expsWithin();
        expsOfAnySort();
        onesWithin();
        mixedWithin();
        besideNotWithin();
        repeats();
        Bench.finish();
    }

    private static void inStart(int statements, String block) {
        Edge.good(statements, TOLD + "start{" + block + "}round{}");
    }

    private static void badInStart(int fault, String block) {
        Edge.bad(fault, TOLD + "start{" + block + "}round{}");
    }

    private static String named(int howMany, String before, String behind) {
        StringBuilder s = new StringBuilder();
        for (int i = 0; i < howMany; i++) {
            s.append(before).append(i).append(behind);
        }
        return s.toString();
    }

    // ---- which FAULT counts

    private static void firstOfOneAndTwo() {
        Bench.sentence("FAULTS: the first that reading meets of 1, 2");
        Edge.bad(1, "start{^@}round{@}");
        Edge.bad(1, "start{^;}round{loop 101{}}");
        Edge.bad(2, "start{loop ^101{}}round{;}");
        Edge.bad(2, "start{loop ^101{}}round{@}");
        Edge.bad(2, "start{loop ^101{}}round{loop 102{}}");
        Edge.bad(2, "start{loop ^101");
        Edge.bad(1, "start ^start @");
        Edge.bad(1, "start{let a=^2147483648;let abcdefghijklm=1;}round{}");
        Edge.bad(1, "start{let ^abcdefghijklm=2147483648;}round{}");
        Edge.bad(2, named(4, "column c", ";") + "column ^c4 @");
        Edge.bad(1, named(4, "column c", ";") + "^@ column c4;");
        // Ahead of what is too many TOKENS, or behind it.
        Edge.bad(1, "start{^@" + "+1".repeat(600) + ";}round{}");
        Edge.bad(2, 1011, "start{}round{let a=" + "1+".repeat(600) + "@");
    }

    private static void ofOneToken() {
        Bench.sentence("of 1, 2 (of one TOKEN 1)");
        Edge.bad(1, named(4, "column c", ";") + "column ^abcdefghijklm;" + END);
        Edge.bad(1, named(4, "column c", ";") + "column ^sum;" + END);
        Edge.bad(1, named(8, "node n", ":int=1;") + "node ^1:int=1;" + END);
        Edge.bad(1, named(4, "fold f", ":sum;") + "fold ^;" + END);
        Edge.bad(1, named(4, "global g", ":sum;") + "global ^id:sum;" + END);
        Edge.bad(1, "start{" + named(8, "let a", "=1;") + "let ^id=1;}round{}");
        Edge.bad(1, "start{loop ^2147483648{}}round{}");
        Edge.bad(1, "start{loop ^a{}}round{}");
        Edge.bad(1, "start{" + "halt;".repeat(120) + "^abcdefghijklm=1;}round{}");
        Edge.bad(1, "start{" + "halt;".repeat(120) + "^id=1;}round{}");
        Edge.bad(1, "start{let a=" + "(".repeat(12) + "^)");
        Edge.bad(1, "start{let a=" + "(".repeat(12) + "^2147483648");
        Edge.bad(1, "start{let a=" + "-".repeat(12) + "^;");
        Edge.bad(1, "start{let a=" + "!".repeat(12) + "^sum");
        Edge.bad(1, "start{" + "loop 1{".repeat(12) + "loop 1^(");
        // The thousand and first TOKEN: it stands at 1011.
        String thousand = "start{}round{let a=" + "1+".repeat(496);
        Edge.bad(2, 1011, thousand + "1");
        Edge.bad(2, 1011, thousand + "-");
        Edge.bad(1, 1011, thousand + "+");
        Edge.bad(1, 1011, thousand + ";");
        Edge.bad(1, 1011, thousand + "@");
        Edge.bad(1, 1011, thousand + "2147483648");
        Edge.bad(1, 1011, thousand + "abcdefghijklm");
        Edge.bad(1, 1011, thousand);
    }

    private static void oneAndTwoAheadOfOthers() {
        Bench.sentence("the first .. of 1, 2; if there is none, of others ..");
        for (String other : new String[] {"let i=1;", "z=1;", "i=true;"}) {
            badInStart(1, other + "halt;^;");
            badInStart(2, other + "loop ^101{}");
            badInStart(1, "halt ^1;" + other);
            badInStart(2, "loop ^101{}" + other);
            Edge.bad(1, TOLD + "start{" + other + "}round{}^}");
            Edge.bad(1, TOLD + "start{" + other + "}round{^");
        }
        Edge.bad(1, "column a;column a;start{}round{}^;");
        Edge.bad(2, "column a;column a;start{}round{loop ^101{}}");
        // Of one TOKEN too: a NAME that is told already and too many.
        Edge.bad(2, named(4, "column c", ";") + "column ^c0;" + END);
        Edge.bad(2, named(8, "node n", ":int=1;") + "node ^n7:int=1;" + END);
    }

    private static void leastPlace() {
        Bench.sentence("of others the one with the least place");
        badInStart(3, "let ^i=1;z=1;i=true;");
        badInStart(3, "let ^i=1;i=true;z=1;");
        badInStart(4, "^z=1;let i=1;i=true;");
        badInStart(4, "^z=1;i=true;let i=1;");
        badInStart(5, "i=^true;let i=1;z=1;");
        badInStart(5, "i=^true;z=1;let i=1;");
        badInStart(3, "let ^i=z+true;");
        badInStart(4, "^z=true+1;");
        badInStart(4, "i=^z+true;");
        badInStart(5, "i=^true+z;");
        badInStart(4, "send ^z true+1 along;");
        badInStart(4, "give ^z true+1;");
        // Reading meets the NAME first, but the exp begins ahead of it.
        badInStart(5, "b=^1+z;");
        badInStart(5, "b=^(z+1);");
        badInStart(5, "i=^!z;");
        badInStart(5, "b=^draw(z);");
        badInStart(5, "if ^1+z{let i=1;}");
        badInStart(5, "i=1+^(b&&z);");
        badInStart(5, "give g ^if(z,true,z);");
        badInStart(5, "i=^(true+1==z);");
        Edge.bad(3, "column a;node ^a:int=1;start{let a=1;b=1;}round{c=true+1;}");
        Edge.bad(4, TOLD + "start{}round{^z=1;i=true;}");
    }

    private static void leastNumber() {
        Bench.sentence("of one TOKEN the least number");
        badInStart(4, "b=^z+1;");
        badInStart(4, "i=^z==1;");
        badInStart(4, "i=^z&&b;");
        badInStart(4, "if ^z*2{}");
        badInStart(4, "give g ^z<1;");
        badInStart(4, "send f ^w||b along;");
        badInStart(4, "i=1+if(^z+1,1,2);");
        badInStart(4, "b=!^z;");
        badInStart(4, "i=-^z;");
    }

    // ---- 2 too many, at the NAME

    private static void columns() {
        Bench.sentence("2 too many: .. at the NAME: 4 columns");
        Edge.good(0, named(4, "column c", ";") + END);
        Edge.bad(2, named(4, "column c", ";") + "column ^c4;" + END);
        Edge.bad(2, named(4, "column c", ";") + "column ^c4;column c5;" + END);
        Edge.bad(2, named(4, "column c", ";") + "node n:int=1;fold f:sum;column ^c4" + END);
    }

    private static void states() {
        Bench.sentence("2 too many: .. 8 node states");
        Edge.good(0, named(8, "node n", ":int=1;") + END);
        Edge.good(0, named(4, "node n", ":int=1;") + named(4, "node m", ":bool=true;") + END);
        Edge.bad(2, named(8, "node n", ":int=1;") + "node ^n8:int=1;" + END);
        Edge.bad(2, named(8, "node n", ":bool=true;") + "node ^n8:int=1;" + END);
        Edge.bad(2, named(4, "node n", ":int=1;") + named(4, "node m", ":bool=true;") + "node ^k:bool=true;" + END);
    }

    private static void folds() {
        Bench.sentence("2 too many: .. 4 folds");
        Edge.good(0, named(4, "fold f", ":sum;") + END);
        Edge.bad(2, named(4, "fold f", ":sum;") + "fold ^f4:sum;" + END);
        Edge.bad(2, named(2, "fold f", ":sum;") + named(2, "fold h", ":all;") + "fold ^f4:some;" + END);
    }

    private static void globals() {
        Bench.sentence("2 too many: .. 4 globals");
        Edge.good(0, named(4, "global g", ":sum;") + END);
        Edge.bad(2, named(4, "global g", ":sum;") + "global ^g4:sum;" + END);
        Edge.bad(2, named(2, "global g", ":sum;") + named(2, "global h", ":all;") + "global ^g4:some;" + END);
    }

    private static void eachSortForItself() {
        Bench.sentence("4 columns, 8 node states, 4 folds, 4 globals, 8 lets (each for itself)");
        String all = named(4, "column c", ";") + named(8, "node n", ":int=1;") + named(4, "fold f", ":sum;")
            + named(4, "global g", ":sum;");
        String lets = named(8, "let a", "=1;");
        Edge.good(16, all + "start{" + lets + "}round{" + lets + "}");
        Edge.bad(2, all + "column ^z;start{" + lets + "}round{" + lets + "}");
        Edge.bad(2, all + "node ^z:int=1;start{" + lets + "}round{" + lets + "}");
        Edge.bad(2, all + "fold ^z:sum;start{" + lets + "}round{" + lets + "}");
        Edge.bad(2, all + "global ^z:sum;start{" + lets + "}round{" + lets + "}");
        Edge.bad(2, all + "start{" + lets + "let ^z=1;}round{" + lets + "}");
        Edge.bad(2, all + "start{" + lets + "}round{" + lets + "let ^z=1;}");
    }

    private static void lets() {
        Bench.sentence("2 too many: .. 8 lets that can be seen");
        String eight = named(8, "let a", "=1;");
        Edge.good(8, "start{" + eight + "}round{}");
        Edge.bad(2, "start{" + eight + "let ^z=1;}round{}");
        Edge.good(16, "start{" + eight + "}round{" + eight + "}");
        Edge.bad(2, "start{}round{" + eight + "let ^z=1;}");
        Edge.bad(2, "start{" + eight + "if true{let ^z=1;}}round{}");
        Edge.bad(2, "start{" + eight + "loop 1{let ^z=1;}}round{}");
        Edge.bad(2, "start{" + eight + "if true{}else{let ^z=1;}}round{}");
        Edge.bad(2, "start{let z=1;if true{let y=1;" + named(6, "let a", "=1;") + "loop 1{let ^x=1;}}}round{}");
    }

    private static void letsThatCanBeSeen() {
        Bench.sentence("8 lets that can be seen (those of a block that has ended can not)");
        String eight = named(8, "let a", "=1;");
        Edge.good(18, "start{if true{" + eight + "}else{" + eight + "}let z=1;}round{}");
        Edge.good(18, "start{loop 1{" + eight + "}if true{" + eight + "}}round{}");
        Edge.good(9, "start{" + named(7, "let a", "=1;") + "if true{let z=1;}}round{}");
        Edge.good(11, "start{" + named(7, "let a", "=1;") + "if true{let z=1;}loop 1{let y=1;}}round{}");
        Edge.bad(2, "start{" + named(7, "let a", "=1;") + "if true{let z=1;}let y=1;let ^x=1;}round{}");
        Edge.good(10, "start{" + named(7, "let a", "=1;") + "if true{let z=1;}let y=1;}round{}");
        Edge.bad(2, "start{loop 1{" + eight + "}" + eight + "let ^z=1;}round{}");
    }

    // ---- 2 too many, at the first TOKEN

    private static String nested(int n, String open, String inside, String close) {
        return open.repeat(n) + inside + close.repeat(n);
    }

    private static void statements() {
        Bench.sentence("2 too many: .. 120 statements");
        Edge.good(120, "start{" + "halt;".repeat(120) + "}round{}");
        Edge.good(120, "start{}round{" + "halt;".repeat(120) + "}");
        Edge.good(120, "start{" + "halt;".repeat(119) + "}round{halt;}");
        Edge.good(120, "start{" + "if true{halt;}else{loop 1{halt;}}".repeat(30) + "}round{}");
        Edge.bad(2, "start{" + "halt;".repeat(120) + "^halt;}round{}");
        Edge.bad(2, "start{}round{" + "halt;".repeat(120) + "^halt;}");
        Edge.bad(2, "start{" + "halt;".repeat(60) + "}round{" + "halt;".repeat(60) + "^halt;}");
        Edge.bad(2, "start{" + "if true{halt;}else{loop 1{halt;}}".repeat(30) + "}round{^halt;}");
        Edge.bad(2, "start{" + "halt;".repeat(119) + "if true{^halt;}}round{}");
        Edge.bad(2, "start{" + "halt;".repeat(119) + "if true{}else{^halt;}}round{}");
        Edge.bad(2, "start{" + "halt;".repeat(119) + "loop 1{^halt;}}round{}");
        Edge.bad(2, "start{" + "halt;".repeat(120) + "^halt;" + "halt;".repeat(60) + "}round{}");
    }

    private static void statementsAtTheirFirstToken() {
        Bench.sentence("at its first TOKEN: 120 statements");
        String before = TOLD + "start{" + "halt;".repeat(120);
        for (String statement : new String[] {"i=1;", "let a=1;", "send f 1 along;", "give g 1;", "if b{}", "loop 1{}", "halt;",
            "z=true+1;", "let i=1;", "i;", "halt", "loop 101{}"}) {
            Edge.bad(2, before + "^" + statement + "}round{}");
        }
    }

    private static void blocksWithin() {
        Bench.sentence("a block that is within more than 12 of these: blocks ..");
        // The block of start, of round, is one of those around it.
        for (String open : new String[] {"loop 1{", "if true{", "if true{}else{"}) {
            Edge.good(12, "start{" + nested(12, open, "", "}") + "}round{}");
            Edge.good(12, "start{}round{" + nested(12, open, "", "}") + "}");
            Edge.good(13, "start{" + nested(12, open, "halt;", "}") + "}round{}");
            Edge.bad(2, "start{" + nested(12, open, "loop 1^{}", "}") + "}round{}");
            Edge.bad(2, "start{}round{" + nested(12, open, "loop 1^{}", "}") + "}");
            Edge.bad(2, "start{" + nested(12, open, "loop 1^{loop 1{}}", "}") + "}round{}");
        }
    }

    private static void expsWithin() {
        Bench.sentence("an exp .. within more than 12 of these: blocks, ( ), draw ( ), if ( )");
        for (String open : new String[] {"loop 1{", "if true{", "if true{}else{"}) {
            inStart(12, nested(11, open, "i=1;", "}"));
            badInStart(2, nested(12, open, "i=^1;", "}"));
            badInStart(2, nested(12, open, "let a=^-1;", "}"));
            badInStart(2, nested(12, open, "send f ^(1) along;", "}"));
            badInStart(2, nested(12, open, "give g ^draw(1);", "}"));
            badInStart(2, nested(12, open, "if ^b{}", "}"));
        }
        inStart(1, "i=" + nested(11, "(", "1", ")") + ";");
        badInStart(2, "i=" + nested(12, "(", "^1", ")") + ";");
        badInStart(2, "i=" + nested(12, "(", "^(1)", ")") + ";");
        inStart(1, "i=" + nested(11, "draw(", "1", ")") + ";");
        badInStart(2, "i=" + nested(12, "draw(", "^1", ")") + ";");
        inStart(1, "b=" + nested(11, "if(", "b", ",b,b)") + ";");
        badInStart(2, "b=" + nested(12, "if(", "^b", ",b,b)") + ";");
        inStart(1, "i=" + nested(11, "if(b,", "1", ",2)") + ";");
        badInStart(2, "i=" + nested(11, "if(b,", "if(^b,1,2)", ",2)") + ";");
        inStart(1, "i=" + nested(11, "if(b,2,", "1", ")") + ";");
        badInStart(2, "i=" + nested(11, "if(b,2,", "if(^b,1,2)", ")") + ";");
    }

    private static void expsOfAnySort() {
        Bench.sentence("an exp, a one .. within more than 12 of these (whatever its first TOKEN is)");
        for (String exp : new String[] {"1", "i", "f", "g", "arc.w", "id", "turn", "nodes", "degree", "indegree"}) {
            String send = "send f " + exp + " along;";
            inStart(12, nested(11, "loop 1{", send, "}"));
            badInStart(2, nested(12, "loop 1{", "send f ^" + exp + " along;", "}"));
            inStart(1, "send f " + nested(11, "(", exp, ")") + " along;");
            badInStart(2, "send f " + nested(12, "(", "^" + exp, ")") + " along;");
            inStart(1, "send f " + "-".repeat(11) + exp + " along;");
            badInStart(2, "send f " + "-".repeat(12) + "^" + exp + " along;");
        }
        for (String exp : new String[] {"true", "false", "b", "has f"}) {
            inStart(12, nested(11, "loop 1{", "b=" + exp + ";", "}"));
            badInStart(2, nested(12, "loop 1{", "b=^" + exp + ";", "}"));
            inStart(1, "b=" + nested(11, "(", exp, ")") + ";");
            badInStart(2, "b=" + nested(12, "(", "^" + exp, ")") + ";");
            inStart(1, "b=" + "!".repeat(11) + exp + ";");
            badInStart(2, "b=" + "!".repeat(12) + "^" + exp + ";");
        }
        // Those that hold another exp are to blame themselves, not it.
        for (String exp : new String[] {"draw(1)", "if(b,1,2)", "(1)", "-1"}) {
            inStart(11, nested(10, "loop 1{", "i=" + exp + ";", "}"));
            badInStart(2, nested(12, "loop 1{", "i=^" + exp + ";", "}"));
            badInStart(2, "i=" + nested(12, "(", "^" + exp, ")") + ";");
            badInStart(2, "i=" + "-".repeat(12) + "^" + exp + ";");
        }
        badInStart(2, nested(12, "loop 1{", "b=^!b;", "}"));
    }

    private static void onesWithin() {
        Bench.sentence("a one .. within more than 12 of .. what stands behind - or !");
        inStart(1, "i=" + "-".repeat(11) + "1;");
        badInStart(2, "i=" + "-".repeat(12) + "^1;");
        badInStart(2, "i=" + "-".repeat(12) + "^-1;");
        badInStart(2, "i=" + "-".repeat(12) + "^(1);");
        inStart(1, "b=" + "!".repeat(11) + "b;");
        badInStart(2, "b=" + "!".repeat(12) + "^b;");
        badInStart(2, "b=" + "!".repeat(12) + "^!b;");
        // It holds for the operand alone, not for what stands behind that.
        inStart(1, "i=" + "-".repeat(11) + "1+(1);");
        inStart(1, "i=" + "-".repeat(11) + "1*-1;");
    }

    /** Pairs of what an exp may be within, the inner one marked where the first exp in it begins. */
    private static void mixedWithin(String exp, String[] opens, String[] marked, String[] closes) {
        for (int outer = 0; outer < opens.length; outer++) {
            for (int inner = 0; inner < opens.length; inner++) {
                for (int n = 1; n < 11; n++) {
                    String open = opens[outer].repeat(n) + opens[inner].repeat(11 - n);
                    String close = closes[inner].repeat(11 - n) + closes[outer].repeat(n);
                    inStart(1, exp + open + closing(exp) + close + ";");
                    badInStart(2, exp + open + marked[inner] + closing(exp) + closes[inner] + close + ";");
                }
            }
        }
    }

    private static String closing(String exp) {
        return exp.equals("i=") ? "1" : "true";
    }

    private static void mixedWithin() {
        Bench.sentence("within more than 12 of these: blocks, ( ), draw ( ), if ( ), and what stands behind - or ! (together)");
        mixedWithin("i=", new String[] {"(", "draw(", "if(b,", "if(b,2,", "-"},
            new String[] {"(^", "draw(^", "if(^b,", "if(^b,2,", "-^"}, new String[] {")", ")", ",2)", ")", ""});
        mixedWithin("b=", new String[] {"(", "if(", "if(b,", "if(b,b,", "!"},
            new String[] {"(^", "if(^", "if(^b,", "if(^b,b,", "!^"}, new String[] {")", ",b,b)", ",b)", ")", ""});
        for (int blocks = 0; blocks <= 11; blocks++) {
            for (String open : new String[] {"loop 1{", "if b{", "if b{}else{"}) {
                inStart(blocks + 1, nested(blocks, open, "i=" + nested(11 - blocks, "(", "1", ")") + ";", "}"));
                badInStart(2, nested(blocks, open, "i=" + nested(12 - blocks, "(", "^1", ")") + ";", "}"));
                inStart(blocks + 1, nested(blocks, open, "i=" + "-".repeat(11 - blocks) + "1;", "}"));
                badInStart(2, nested(blocks, open, "i=" + "-".repeat(12 - blocks) + "^1;", "}"));
            }
        }
    }

    private static void besideNotWithin() {
        Bench.sentence("within more than 12 (what stands beside it does not count)");
        String deepest = nested(11, "(", "1", ")");
        inStart(1, "i=" + deepest + ("+" + deepest).repeat(20) + ";");
        inStart(1, "i=1" + "+(1)".repeat(100) + ";");
        inStart(1, "i=1" + "- -1".repeat(100) + ";");
        inStart(1, "i=1" + "+draw(1)".repeat(100) + ";");
        inStart(1, "i=1" + "+if(b,1,2)".repeat(50) + ";");
        inStart(40, "loop 1{}if b{}else{}".repeat(20));
        inStart(13 * 5, nested(12, "loop 1{", "", "}").repeat(5) + "halt;".repeat(5));
        inStart(1, "i=" + "(".repeat(11) + "1" + ")+1".repeat(11) + ";");
    }

    private static void repeats() {
        Bench.sentence("at the NUMBER: loop of more than 100");
        for (String number : new String[] {"0", "1", "99", "100", "000000000100"}) {
            inStart(1, "loop " + number + "{}");
        }
        for (String number : new String[] {"101", "102", "200", "1000", "00101", "356", "65636", "2147483647"}) {
            badInStart(2, "loop ^" + number + "{}");
            Edge.bad(2, TOLD + "start{}round{loop 100{loop ^" + number + "{}}}");
        }
        inStart(2, "loop 100{loop 100{}}");
        // The NUMBER itself is to blame, whatever stands behind it.
        Edge.bad(2, "start{loop ^101");
        badInStart(2, "loop ^101;");
        inStart(1, "i=101;");
    }
}
