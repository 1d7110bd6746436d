/** The edges of the grammar: what may be missing, what may stand once alone, which words are no NAMES. */
public final class EdgeGrammarTest {
    private static final String[] RESERVED = {"start", "round", "column", "node", "int", "bool", "true", "false", "fold",
        "global", "sum", "least", "most", "first", "all", "some", "let", "send", "along", "against", "give", "if", "else",
        "loop", "halt", "arc", "has", "id", "turn", "nodes", "degree", "indegree", "draw"};

    private static final String TOLD = "column w;node i:int=1;node b:bool=true;fold f:sum;global g:sum;";

    private EdgeGrammarTest() { }

    public static void main(String[] args) {
        program();
        told();
        ways();
        blocks();
        statements();
        comparisonsOnce();
        ones();
        bases();
        reserved();
        notReserved();
        endOfText();
        Bench.finish();
    }

    private static void inStart(int statements, String block) {
        Edge.good(statements, TOLD + "start{" + block + "}round{}");
    }

    private static void badInStart(int fault, String block) {
        Edge.bad(fault, TOLD + "start{" + block + "}round{}");
    }

    private static void program() {
        Bench.sentence("program = {told} 'start' block 'round' block");
        Edge.good(0, "start{}round{}");
        Edge.good(0, "column a;start{}round{}");
        Edge.good(0, "global a:sum;column b;fold c:sum;node d:int=1;column e;start{}round{}");
        Edge.bad(1, "^");
        Edge.bad(1, "column a;^");
        Edge.bad(1, "start^");
        Edge.bad(1, "start{}^");
        Edge.bad(1, "start{}round^");
        Edge.bad(1, "^round{}start{}");
        Edge.bad(1, "start{}^start{}round{}");
        Edge.bad(1, "start{}round{}^round{}");
        Edge.bad(1, "start{}^column a;round{}");
        Edge.bad(1, "start{}round{}^column a;");
        Edge.bad(1, "start{}round{}^;");
        Edge.bad(1, "^;start{}round{}");
        Edge.bad(1, "^{}round{}");
    }

    private static void told() {
        Bench.sentence("told = 'column' NAME ';' | 'node' NAME ':' 'int' '=' ['-'] NUMBER ';' | ..");
        String end = "start{}round{}";
        Edge.good(0, "node a:int=-0;" + end);
        Edge.bad(1, "node a:int=-^-1;" + end);
        Edge.bad(1, "node a:int=^+1;" + end);
        Edge.bad(1, "node a:int=^!1;" + end);
        Edge.bad(1, "node a:int=1^+1;" + end);
        Edge.bad(1, "node a:int=^(1);" + end);
        Edge.bad(1, "node a:int=^true;" + end);
        Edge.bad(1, "node a:int=-^true;" + end);
        Edge.bad(1, "node a:int=^;" + end);
        Edge.bad(1, "node a:int^;" + end);
        Edge.bad(1, "node a^;" + end);
        Edge.bad(1, "node ^:int=1;" + end);
        Edge.bad(1, "node a:^=1;" + end);
        Edge.bad(1, "node a^=1;" + end);
        Edge.bad(1, "node a:int^==1;" + end);
        Edge.good(0, "node a:bool=true;node b:bool=false;" + end);
        Edge.bad(1, "node a:bool=^0;" + end);
        Edge.bad(1, "node a:bool=^!true;" + end);
        Edge.bad(1, "node a:bool=^-true;" + end);
        Edge.bad(1, "node a:bool=^True;" + end);
        Edge.bad(1, "column a^:int;" + end);
        Edge.bad(1, "column a^,b;" + end);
        Edge.bad(1, "column ^1;" + end);
        Edge.bad(1, "column a ^start{}round{}");
        Edge.bad(1, "fold a^;" + end);
        Edge.bad(1, "fold a:^;" + end);
        Edge.bad(1, "fold a:sum^=0;" + end);
        Edge.bad(1, "global a:sum^,b:sum;" + end);
    }

    private static void ways() {
        Bench.sentence("way = 'sum' | 'least' | 'most' | 'first' | 'all' | 'some'");
        for (String word : RESERVED) {
            boolean way = word.equals("sum") || word.equals("least") || word.equals("most") || word.equals("first")
                || word.equals("all") || word.equals("some");
            for (String sort : new String[] {"fold", "global"}) {
                if (way) {
                    Edge.good(0, sort + " a:" + word + ";start{}round{}");
                } else {
                    Edge.bad(1, sort + " a:^" + word + ";start{}round{}");
                }
            }
        }
        Edge.bad(1, "fold a:^any;start{}round{}");
        Edge.bad(1, "global a:^1;start{}round{}");
    }

    private static void blocks() {
        Bench.sentence("block = '{' {statement} '}'");
        inStart(0, "");
        inStart(1, "halt;");
        inStart(1, "if b{}");
        inStart(1, "if b{}else{}");
        inStart(1, "loop 1{}");
        badInStart(1, "^;");
        badInStart(1, "halt;^;");
        badInStart(1, "^{}");
        badInStart(1, "if b ^halt;");
        badInStart(1, "if b{}else ^halt;");
        badInStart(1, "if b{}else ^if b{}");
        badInStart(1, "loop 1 ^halt;");
        badInStart(1, "loop 1^;");
        Edge.bad(1, "start ^halt; round{}");
        Edge.bad(1, "start{halt;^round{}");
        Edge.bad(1, "start{}^}round{}");
    }

    private static void statements() {
        Bench.sentence("statement = NAME '=' exp ';' | 'let' .. | 'send' .. | 'give' .. | 'if' .. | 'loop' .. | 'halt' ';'");
        inStart(7, "i=1;let a=1;send f 1 along;send f 1 against;give g 1;loop 0{}halt;");
        inStart(3, "if b{halt;}else{halt;}");
        badInStart(1, "if b{}else{}^else{}");
        badInStart(1, "^else{}");
        badInStart(1, "i=1 ^");
        badInStart(1, "i^;");
        badInStart(1, "i=^;");
        badInStart(1, "i^==1;");
        badInStart(1, "^1=i;");
        badInStart(1, "^(i)=1;");
        badInStart(1, "let a^;");
        badInStart(1, "let ^=1;");
        badInStart(1, "let ^1=1;");
        badInStart(1, "let a^:int=1;");
        badInStart(1, "send ^1 along;");
        badInStart(1, "send f ^along;");
        badInStart(1, "send f 1^;");
        badInStart(1, "send f 1 along ^against;");
        badInStart(1, "send f ^=1 along;");
        badInStart(1, "give g^;");
        badInStart(1, "give g 1 ^along;");
        badInStart(1, "give g^=1;");
        badInStart(1, "if^{}");
        badInStart(1, "if b^;");
        badInStart(1, "loop^{}");
        badInStart(1, "loop ^i{}");
        badInStart(1, "loop ^-1{}");
        badInStart(1, "loop ^(1){}");
        badInStart(1, "loop 1^+1{}");
        badInStart(1, "halt ^");
        badInStart(1, "halt ^1;");
        badInStart(1, "^column a;");
        badInStart(1, "^true=true;");
        badInStart(1, "^id=1;");
        badInStart(1, "^draw(1);");
    }

    private static void comparisonsOnce() {
        Bench.sentence("test = sum [('==' | '!=' | '<' | '<=' | '>' | '>=') sum]");
        String[] signs = {"==", "!=", "<", "<=", ">", ">="};
        for (String first : signs) {
            inStart(1, "b=i" + first + "i;");
            for (String second : signs) {
                badInStart(1, "b=i" + first + "i^" + second + "i;");
                inStart(1, "b=i" + first + "i&&i" + second + "i;");
                inStart(1, "b=i" + first + "i||i" + second + "i;");
            }
            badInStart(1, "b=i" + first + "^;");
            badInStart(1, "b= ^" + first + "i;");
        }
        inStart(1, "b=(i<i)==(i<i);");
    }

    private static void ones() {
        Bench.sentence("one = ('-' | '!') one | base");
        inStart(1, "i=-i;");
        inStart(1, "i=--i;");
        inStart(1, "i=i- -i;");
        inStart(1, "i=i--i*-i;");
        inStart(1, "b=!b;");
        inStart(1, "b=!!b&&!b;");
        badInStart(1, "i=-^;");
        badInStart(1, "b=!^;");
        badInStart(1, "i=^+i;");
        badInStart(1, "i=i-^;");
        badInStart(1, "i=i*^/i;");
        badInStart(1, "i=^*i;");
        badInStart(1, "b=b ^!b;");
        badInStart(1, "b=b&&^;");
        badInStart(1, "b=b||^||b;");
        for (String sign : new String[] {"||", "&&", "+", "*", "/", "%"}) {
            badInStart(1, "i=i" + sign + "^" + sign + "i;");
            badInStart(1, "i=i" + sign + "^;");
        }
    }

    private static void bases() {
        Bench.sentence("base = NUMBER | .. | 'draw' '(' exp ')' | 'if' '(' exp ',' exp ',' exp ')' | '(' exp ')'");
        inStart(10, "i=1;b=true;b=false;i=i;b=has f;i=id;i=turn;i=nodes;i=degree;i=indegree;");
        inStart(4, "i=draw(1);i=if(b,1,2);i=(1);send f arc.w along;");
        badInStart(1, "i=draw^;");
        badInStart(1, "i=draw ^1;");
        badInStart(1, "i=draw(^);");
        badInStart(1, "i=draw(1^,2);");
        badInStart(1, "i=draw(1^;");
        badInStart(1, "i=if^;");
        badInStart(1, "i=if(^);");
        badInStart(1, "i=if(b^);");
        badInStart(1, "i=if(b,^);");
        badInStart(1, "i=if(b,1^);");
        badInStart(1, "i=if(b,1,^);");
        badInStart(1, "i=if(b,1,2^,3);");
        badInStart(1, "i=if(b,1,2^;");
        badInStart(1, "i=(^);");
        badInStart(1, "i=(1^;");
        badInStart(1, "i=(1^,2);");
        badInStart(1, "i=1^);");
        badInStart(1, "b=has^;");
        badInStart(1, "b=has ^(f);");
        badInStart(1, "b=has ^1;");
        badInStart(1, "send f arc ^along;");
        badInStart(1, "send f arc. ^along;");
        badInStart(1, "send f arc.^1 along;");
        badInStart(1, "send f arc.w^.w along;");
        badInStart(1, "i=i^.w;");
        badInStart(1, "i=i^(1);");
        badInStart(1, "i=1 ^1;");
        badInStart(1, "i=^sum;");
        badInStart(1, "i=^int;");
    }

    private static void reserved() {
        Bench.sentence("Words in quotes are RESERVED: no NAMES");
        String end = "start{}round{}";
        Bench.due("how many words", RESERVED.length, 33);
        for (String word : RESERVED) {
            Edge.bad(1, "column ^" + word + ";" + end);
            Edge.bad(1, "node ^" + word + ":int=1;" + end);
            Edge.bad(1, "fold ^" + word + ":sum;" + end);
            Edge.bad(1, "global ^" + word + ":sum;" + end);
            badInStart(1, "let ^" + word + "=1;");
            badInStart(1, "send ^" + word + " 1 along;");
            badInStart(1, "give ^" + word + " 1;");
            badInStart(1, "b=has ^" + word + ";");
            badInStart(1, "send f arc.^" + word + " along;");
        }
    }

    private static void notReserved() {
        Bench.sentence("Words in quotes are RESERVED (other words are not)");
        for (String word : RESERVED) {
            String capital = Character.toUpperCase(word.charAt(0)) + word.substring(1);
            String shorter = word.substring(0, word.length() - 1);
            for (String name : new String[] {capital, word + "1", word + "s", word.toUpperCase(), shorter}) {
                if (!java.util.Arrays.asList(RESERVED).contains(name)) {
                    Edge.good(1, "column " + name + ";start{}round{halt;}");
                    Edge.good(2, "start{}round{let " + name + "=1;" + name + "=" + name + ";}");
                }
            }
        }
        for (String word : new String[] {"program", "told", "way", "block", "statement", "exp", "both", "test", "term", "one",
            "base", "NAME", "NUMBER"}) {
            Edge.good(1, "start{let " + word + "=1;}round{}");
        }
    }

    private static void endOfText() {
        Bench.sentence("another TOKEN than can stand there (at the end of the text none)");
        String whole = "column w;node i:int=-1;node b:bool=true;fold f:sum;global g:all;start{let a=if(b,1,draw(2));"
            + "send f arc.w+a along;give g has f||!(i<=2);}round{if b{halt;}else{loop 2{i=i*-2;}}}";
        Edge.good(7, whole);
        for (int size = 0; size < whole.length(); size++) {
            String cut = whole.substring(0, size);
            VertexLanguage x = new VertexLanguage();
            int answer = Bench.read(x, cut);
            Bench.due("program() of [" + cut + "]", answer, -11);
            // A word or sign that was cut in two may be to blame itself, nothing behind it.
            int place = x.fault(0);
            boolean inToken = place < size && cut.substring(place).matches("[a-z]+|[|]");
            Bench.due("fault(0) of [" + cut + "]", place, inToken ? place : size);
        }
    }
}
