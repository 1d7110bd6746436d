import java.util.ArrayList;
import java.util.List;

/** The edges of PRINTED, and of promise 6, print. */
public final class EdgePrintTest {
    private static final String TOLD = "column w ; node i : int = 1 ; node b : bool = true ; fold f : sum ; global g : sum ; ";

    // The lines of the grammar from the loosest on, with signs of each.
    private static final String[][] LINES = {{"||"}, {"&&"}, {"==", "!=", "<", ">="}, {"+", "-"}, {"*", "/", "%"}};

    private EdgePrintTest() { }

    public static void main(String[] args) {
        tokensAsWritten();
        blankBetween();
        noRemarks();
        rightOperandOfTheSameLine();
        leftOperandOfTheSameLine();
        looserWithin();
        tighterWithin();
        behindSigns();
        aroundBases();
        wholeExps();
        bracketsInBrackets();
        otherBrackets();
        readAsItIs();
        bounds();
        howMany();
        longest();
        noProgram();
        Bench.finish();
    }

    private static void exp(String statement, String want) {
        Edge.prints(TOLD + "start{" + statement + "}round{}", TOLD + "start { " + want + " } round { }");
    }

    private static void same(String statement) {
        exp(statement, statement);
        exp(statement.replaceAll(" ([^a-z0-9])", "$1").replaceAll("([^a-z0-9]) ", "$1"), statement);
    }

    private static void tokensAsWritten() {
        Bench.sentence("PRINTED: TOKENS of the program as they are written there");
        Edge.prints("node Ab0:int=-007;start{Ab0=00010;}round{loop 0100{}}",
            "node Ab0 : int = - 007 ; start { Ab0 = 00010 ; } round { loop 0100 { } }");
        Edge.prints("node z:int=0;start{z=" + "0".repeat(60) + ";}round{}",
            "node z : int = 0 ; start { z = " + "0".repeat(60) + " ; } round { }");
        Edge.prints("global b:all;fold a:some;column c;start{}round{}",
            "global b : all ; fold a : some ; column c ; start { } round { }");
    }

    private static void blankBetween() {
        Bench.sentence("a blank between two");
        Edge.prints("start{}round{}", "start { } round { }");
        Edge.prints("  start\n\n{   }\nround\n{\n}\n  ", "start { } round { }");
        exp("i=if(1<=2,-1,i);", "i = if ( 1 <= 2 , - 1 , i ) ;");
        exp("b=!!b&&i!=- -1;", "b = ! ! b && i != - - 1 ;");
        exp("send f arc.w along;", "send f arc . w along ;");
    }

    private static void noRemarks() {
        Bench.sentence("TOKENS of the program (remarks are none)");
        Edge.prints("#a\nstart#b\n{#c\n}round{}#d", "start { } round { }");
    }

    private static void rightOperandOfTheSameLine() {
        Bench.sentence("chains .. are read from the left; so ( ) stand around a right operand of the same line");
        for (String[] line : LINES) {
            for (String outer : line) {
                for (String inner : line) {
                    boolean test = line[0].equals("==");
                    boolean bools = line[0].equals("||") || line[0].equals("&&");
                    String leaf = bools ? "b" : "i";
                    String first = test ? "b" : leaf;
                    if (!test || outer.equals("==") || outer.equals("!=")) {
                        same((bools || test ? "b" : "i") + " = " + first + " " + outer + " ( " + leaf + " " + inner + " " + leaf
                            + " ) ;");
                    }
                }
            }
        }
        same("i = 1 - ( 2 - ( 3 - 4 ) ) ;");
        same("i = 1 + ( 2 + 3 ) + ( 4 + 5 ) ;");
        same("b = b || ( b || b ) || ( b || ( b || b ) ) ;");
    }

    private static void leftOperandOfTheSameLine() {
        Bench.sentence("( ) where they are needed .. and nowhere else (chains .. are read from the left)");
        for (String[] line : LINES) {
            boolean bools = line[0].equals("||") || line[0].equals("&&");
            String leaf = bools ? "b" : "i";
            if (!line[0].equals("==")) {
                for (String outer : line) {
                    for (String inner : line) {
                        String chain = leaf + " " + inner + " " + leaf + " " + outer + " " + leaf;
                        exp(leaf + "=(" + leaf + inner + leaf + ")" + outer + leaf + ";", leaf + " = " + chain + " ;");
                        same(leaf + " = " + chain + " ;");
                    }
                }
            }
        }
        // Comparing makes no chain.
        same("b = ( i < i ) == b ;");
        same("b = ( i == i ) != ( i >= i ) ;");
        same("b = ( b == b ) == ( b == b ) ;");
        exp("i=((1-2)-3)-4;", "i = 1 - 2 - 3 - 4 ;");
    }

    private static void looserWithin() {
        Bench.sentence("( ) where they are needed to be read as they are");
        same("b = b && ( b || b ) ;");
        same("b = ( b || b ) && b ;");
        same("b = b == ( b || b ) ;");
        same("b = ( b && b ) == b ;");
        same("b = ( b || b ) != ( b && b ) ;");
        same("i = 2 * ( 3 + 4 ) ;");
        same("i = ( 3 - 4 ) * 2 ;");
        same("i = ( 3 - 4 ) % ( 5 + 6 ) / ( 7 - 8 ) ;");
        same("i = 1 + 2 * ( 3 + 4 ) ;");
    }

    private static void tighterWithin() {
        Bench.sentence("( ) .. nowhere else (what binds tighter)");
        exp("b=(b&&b)||(b&&b);", "b = b && b || b && b ;");
        exp("b=(i<1)&&(i==2)||(i!=3);", "b = i < 1 && i == 2 || i != 3 ;");
        exp("b=(i+1)<(i-1);", "b = i + 1 < i - 1 ;");
        exp("b=(i*1)==(-i);", "b = i * 1 == - i ;");
        exp("i=(1*2)+(3/4)-(5%6);", "i = 1 * 2 + 3 / 4 - 5 % 6 ;");
        exp("i=(-1)*(-2)/(-3);", "i = - 1 * - 2 / - 3 ;");
        exp("i=1-(-2);", "i = 1 - - 2 ;");
        exp("b=(!b)&&(!b);", "b = ! b && ! b ;");
        exp("b=(!b)==(!b);", "b = ! b == ! b ;");
    }

    private static void behindSigns() {
        Bench.sentence("one = ('-' | '!') one | base (what stands behind - or !)");
        exp("i=-(-(-1));", "i = - - - 1 ;");
        exp("b=!(!(b));", "b = ! ! b ;");
        exp("i=-(i);", "i = - i ;");
        exp("i=-(draw(1));", "i = - draw ( 1 ) ;");
        exp("b=!(has f);", "b = ! has f ;");
        for (String inside : new String[] {"i + i", "i - i", "i * i", "i / i", "i % i"}) {
            same("i = - ( " + inside + " ) ;");
        }
        for (String inside : new String[] {"b || b", "b && b", "i == i", "i < i"}) {
            same("b = ! ( " + inside + " ) ;");
        }
        exp("i=(-1)+2;", "i = - 1 + 2 ;");
        exp("i=(-1)*2;", "i = - 1 * 2 ;");
        same("i = - ( 1 * 2 ) * 3 ;");
    }

    private static void aroundBases() {
        Bench.sentence("( ) .. nowhere else (a base)");
        for (String base : new String[] {"1", "i", "f", "g", "id", "turn", "nodes", "degree", "indegree", "draw ( 2 )",
            "if ( b , 1 , 2 )"}) {
            exp("i=(" + base + ");", "i = " + base + " ;");
            exp("i=2*(" + base + ");", "i = 2 * " + base + " ;");
            exp("i=-(" + base + ")%2;", "i = - " + base + " % 2 ;");
        }
        for (String base : new String[] {"true", "false", "b", "has f", "if ( b , b , b )"}) {
            exp("b=(" + base + ");", "b = " + base + " ;");
            exp("b=!(" + base + ")&&(" + base + ");", "b = ! " + base + " && " + base + " ;");
        }
        exp("send f (arc.w)*(arc.w) along;", "send f arc . w * arc . w along ;");
    }

    private static void wholeExps() {
        Bench.sentence("( ) .. nowhere else (a whole exp)");
        exp("i=(1+2);", "i = 1 + 2 ;");
        exp("let a=(b||b);", "let a = b || b ;");
        exp("send f(1+2)along;", "send f 1 + 2 along ;");
        exp("give g(1-2);", "give g 1 - 2 ;");
        exp("if(b&&b){}", "if b && b { }");
        exp("if(b){}else{}", "if b { } else { }");
        exp("i=draw((1+2));", "i = draw ( 1 + 2 ) ;");
        exp("i=if((b||b),(1+2),(3-4));", "i = if ( b || b , 1 + 2 , 3 - 4 ) ;");
        exp("if(if(b,b,b)){}", "if if ( b , b , b ) { }");
    }

    private static void bracketsInBrackets() {
        Bench.sentence("( ) where they are needed .. (once)");
        exp("i=((((1))));", "i = 1 ;");
        exp("i=(((1+2)))*3;", "i = ( 1 + 2 ) * 3 ;");
        exp("i=3*(((1+2)));", "i = 3 * ( 1 + 2 ) ;");
        exp("i=1-((2-3));", "i = 1 - ( 2 - 3 ) ;");
        exp("i=-((1+2));", "i = - ( 1 + 2 ) ;");
        exp("i=((1)+(2))*((3));", "i = ( 1 + 2 ) * 3 ;");
        exp("i=((1+2)+3)*4;", "i = ( 1 + 2 + 3 ) * 4 ;");
        exp("i=(1+(2+3))*4;", "i = ( 1 + ( 2 + 3 ) ) * 4 ;");
        exp("i=((1*2))+((3*4));", "i = 1 * 2 + 3 * 4 ;");
        exp("b=((i<1)==((b)));", "b = ( i < 1 ) == b ;");
        exp("i=" + "(".repeat(11) + "1" + ")+2".repeat(11) + ";", "i = 1" + " + 2".repeat(11) + " ;");
        exp("i=" + "2+(".repeat(11) + "1" + ")".repeat(11) + ";", "i = " + "2 + ( ".repeat(10) + "2 + 1" + " )".repeat(10) + " ;");
    }

    private static void otherBrackets() {
        Bench.sentence("exps with ( ) .. (those of draw and if stay)");
        same("i = draw ( 1 ) ;");
        same("i = if ( b , 1 , 2 ) ;");
        same("i = draw ( draw ( 1 ) ) ;");
        exp("i=draw(((1)));", "i = draw ( 1 ) ;");
        exp("i=draw((1)+(2));", "i = draw ( 1 + 2 ) ;");
        exp("i=(draw(1)+2)*3;", "i = ( draw ( 1 ) + 2 ) * 3 ;");
    }

    // ---- all shapes of two operators

    private static void readAsItIs() {
        Bench.sentence("PRINTED .. to be read as they are");
        String[] signs = {"||", "&&", "==", "<", "+", "-", "*", "/"};
        List<String> all = new ArrayList<>();
        for (String outer : signs) {
            for (String inner : signs) {
                all.add("(" + leaf(inner, 1) + inner + leaf(inner, 2) + ")" + outer + other(outer, inner));
                all.add(other(outer, inner) + outer + "(" + leaf(inner, 1) + inner + leaf(inner, 2) + ")");
            }
        }
        for (String exp : all) {
            String text = TOLD + "start{let a=" + exp + ";}round{}";
            VertexLanguage x = new VertexLanguage();
            if (Bench.read(x, text) < 0) {
                continue;
            }
            String once = Edge.printed(text);
            Edge.prints(once, once);
            boolean bare = !once.substring(once.indexOf("let a")).contains("(");
            String without = Edge.printed(text.replace("(", "").replace(")", ""));
            // Without them it must be another text, or be read as it was.
            Bench.due("( ) in " + once, bare ? 1 : 0, without.equals(once) ? 1 : 0);
        }
    }

    private static String leaf(String sign, int n) {
        return sign.equals("||") || sign.equals("&&") ? "b" : "" + n;
    }

    private static String other(String outer, String inner) {
        boolean innerIsBool = "|| && == <".contains(inner);
        return outer.equals("||") || outer.equals("&&") || outer.equals("==") && innerIsBool ? "b" : "3";
    }

    // ---- promise 6

    private static void bounds() {
        Bench.sentence("Byte i of what the program is PRINTED as .. BAD: none such");
        VertexLanguage x = Edge.reading("start{}round{}");
        Bench.due("print(0)", x.print(0), 's');
        Bench.due("print(1)", x.print(1), 't');
        Bench.due("print(17)", x.print(17), ' ');
        Bench.due("print(18)", x.print(18), '}');
        Bench.due("print(19)", x.print(19), -1);
        Bench.due("print(20)", x.print(20), -1);
        Bench.due("print(MAX)", x.print(Integer.MAX_VALUE), -1);
        Bench.due("print(-2)", x.print(-2), -1);
        Bench.due("print(MIN)", x.print(Integer.MIN_VALUE), -1);
        // What a longer program before it left is none such.
        Bench.read(x, "start{halt;}round{}");
        Bench.read(x, "start{}round{}");
        Bench.due("print(18) behind a longer one", x.print(18), '}');
        Bench.due("print(19) behind a longer one", x.print(19), -1);
    }

    private static void howMany() {
        Bench.sentence("- 1: how many");
        Bench.due("print(-1)", Edge.reading("start{}round{}").print(-1), 19);
        Bench.due("print(-1)", Edge.reading("start{let a=((1));}round{}").print(-1), "start { let a = 1 ; } round { }".length());
        Bench.due("print(-1)", Edge.reading(" # all\nstart { } round { } ").print(-1), 19);
    }

    private static void longest() {
        Bench.sentence("Byte i .. (of the longest that there can be)");
        String ones = "start{}round{let a=-1" + "+1".repeat(494) + ";}";
        Edge.prints(ones, "start { } round { let a = - 1" + " + 1".repeat(494) + " ; }");
        // 4,000 bytes without a blank, a thousand TOKENS: nothing longer is PRINTED.
        String digits = "0".repeat(2480) + "1";
        String text = "start{}round{let abcdefghijkl=-" + digits + "+11".repeat(494) + ";}";
        Bench.due("bytes of the text", text.length() <= 4000 ? 0 : text.length(), 0);
        Edge.prints(text, "start { } round { let abcdefghijkl = - " + digits + " + 11".repeat(494) + " ; }");
    }

    private static void noProgram() {
        Bench.sentence("BAD: .. no program");
        VertexLanguage x = new VertexLanguage();
        Bench.due("new: print(-1)", x.print(-1), -1);
        Bench.due("new: print(0)", x.print(0), -1);
        Bench.read(x, "start{}round{}");
        Bench.read(x, "start{}round{");
        Bench.due("FAULT: print(-1)", x.print(-1), -1);
        Bench.due("FAULT: print(0)", x.print(0), -1);
        Bench.read(x, "start{a=1;}round{}");
        Bench.due("FAULT 4: print(-1)", x.print(-1), -1);
        Bench.due("FAULT 4: print(0)", x.print(0), -1);
        Bench.read(x, "start{}round{}");
        Bench.due("a program again: print(-1)", x.print(-1), 19);
    }
}
