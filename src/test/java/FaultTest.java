/** Promises 4 and 5: program, fault. A ^ in a text here stands before the TOKEN that is to blame. */
public final class FaultTest {
    private static VertexLanguage x = new VertexLanguage();
    private static boolean onNewObjects = true;

    private FaultTest() { }

    public static void main(String[] args) {
        answers();
        tokens();
        grammar();
        tooManyTokens();
        tooManyNames();
        tooManyStatements();
        tooDeep();
        toldAlready();
        wrongNames();
        wrongKinds();
        anyKind();
        whichFault();
        lines();
        behindALongerText();
        Bench.finish();
    }

    private static void begin() {
        if (onNewObjects) {
            x = new VertexLanguage();
        }
    }

    private static void good(int statements, String text) {
        begin();
        Bench.due("program() of " + text, Bench.read(x, text), statements);
        Bench.due("fault(0) of " + text, x.fault(0), -2);
        Bench.due("fault(1) of " + text, x.fault(1), -2);
    }

    private static void bad(int fault, String marked) {
        begin();
        int place = marked.indexOf('^');
        String text = marked.substring(0, place) + marked.substring(place + 1);
        Bench.due("program() of " + text, Bench.read(x, text), -10 - fault);
        Bench.due("fault(0) of " + text, x.fault(0), place);
        Bench.due("no program is there then", x.print(-1), -1);
        Bench.due("no statements are there then", x.count(4), 0);
    }

    private static void inStart(int statements, String block) {
        good(statements, told() + "start {" + block + "} round { }");
    }

    private static void badInStart(int fault, String block) {
        bad(fault, told() + "start {" + block + "} round { }");
    }

    private static String told() {
        return "column w; node i: int = 1; node b: bool = true; fold f: sum; fold p: some; global g: most; global q: all; ";
    }

    private static void answers() {
        good(0, "start { } round { }");
        good(0, "start{}round{}");
        good(1, "start { } round { halt ; }");
        good(7, "start { if true { halt ; } else { halt ; } loop 2 { loop 3 { halt ; } halt ; } } round { }");
        bad(1, "^");
        Bench.due("fault(-1)", x.fault(-1), -1);
        Bench.due("fault(2)", x.fault(2), -1);
        Bench.read(x, "start { } round { }");
        x.begin(1);
        Bench.due("a RUN", x.told(0), 0);
        Bench.read(x, "start { } round { }");
        Bench.due("the RUN is gone with program()", x.told(0), -1);
        x.begin(1);
        Bench.read(x, "start");
        Bench.due("the RUN is gone with a bad program()", x.told(0), -1);
        Bench.due("begin() without program", x.begin(1), -1);
    }

    private static void tokens() {
        good(1, "start{let abcdefghijkl=1;}round{}");
        bad(1, "start{let ^abcdefghijklm=1;}round{}");
        good(1, "start{let aZ09zA=1;}round{}");
        bad(1, "start{let ^1a=1;}round{}");
        bad(1, "start{let a^_b=1;}round{}");
        good(1, "start{let a=2147483647;}round{}");
        bad(1, "start{let a=^2147483648;}round{}");
        bad(1, "start{let a=^99999999999999999999999999;}round{}");
        good(1, "start{let a=" + Bench.times(60, "0") + "7;}round{}");
        bad(1, "start{let a=-^2147483648;}round{}");
        bad(1, "start{let a=true ^& true;}round{}");
        bad(1, "start{let a=true ^| true;}round{}");
        bad(1, "start{let a=true &&^& true;}round{}");
        bad(1, "start{^\t}round{}");
        bad(1, "start{^\r\n}round{}");
        bad(1, "start{^\0}round{}");
        bad(1, "start{let ^\u00e9=1;}round{}");
        good(0, "#a\n start # { @ \n { } # ; # \n round{}# no line end");
        good(1, "start{let a=1<=2;}round{}");
        bad(1, "start{let a=1< ^=2;}round{}");
        bad(1, "start{let a^==1;}round{}");
        good(1, "start{let a=!!true;}round{}");
        bad(1, "start{let a=true^!true;}round{}");
        bad(1, "start{let a=^!=true;}round{}");
    }

    private static void grammar() {
        bad(1, "start { } round { ^");
        bad(1, "start { } round { } ^x");
        bad(1, "start { } ^");
        bad(1, "^round { } start { }");
        bad(1, "start { } ^start { }");
        bad(1, "start ^; round { }");
        bad(1, "column ^; start { } round { }");
        bad(1, "column ^node ; start { } round { }");
        bad(1, "column a ^start { } round { }");
        bad(1, "node a ^= 1 ; start { } round { }");
        bad(1, "node a : ^sum = 1 ; start { } round { }");
        bad(1, "node a : int = ^true ; start { } round { }");
        bad(1, "node a : int = - ^- 1 ; start { } round { }");
        bad(1, "node a : bool = ^1 ; start { } round { }");
        bad(1, "node a : bool = ^- 1 ; start { } round { }");
        bad(1, "fold a : ^int ; start { } round { }");
        bad(1, "global a : ^every ; start { } round { }");
        bad(1, "global ^all : sum ; start { } round { }");
        bad(1, "start { } ^node a : int = 1 ; round { }");
        badInStart(1, "i ^1;");
        badInStart(1, "i = ^;");
        badInStart(1, "i = 1 ^");
        badInStart(1, "let ^turn = 1;");
        badInStart(1, "send f 1 ^;");
        badInStart(1, "send f ^along;");
        badInStart(1, "give ^1;");
        badInStart(1, "if true ^halt;");
        badInStart(1, "if ^{ }");
        badInStart(1, "^else { }");
        badInStart(1, "loop ^i { }");
        badInStart(1, "loop ^- 1 { }");
        badInStart(1, "loop 2 ^halt;");
        badInStart(1, "halt ^");
        badInStart(1, "^{ }");
        badInStart(1, "^;");
        badInStart(1, "^true = true;");
        badInStart(1, "i = 1 < 2 ^< 3;");
        badInStart(1, "b = 1 == 1 ^== true;");
        badInStart(1, "b = b && 1 < 2 ^!= true;");
        badInStart(1, "i = ( 1 ^;");
        badInStart(1, "i = ( ^);");
        badInStart(1, "i = 1 ^);");
        badInStart(1, "i = ^+ 1;");
        badInStart(1, "i = 1 + ^* 2;");
        badInStart(1, "i = draw ^1;");
        badInStart(1, "i = draw ( 1 ^, 2 );");
        badInStart(1, "i = if ^b;");
        badInStart(1, "i = if ( b , 1 ^);");
        badInStart(1, "i = if ( b , 1 , 2 ^, 3 );");
        badInStart(1, "if ( b ^, b , b ) { }");
        badInStart(1, "send f arc ^w along;");
        badInStart(1, "send f arc . ^id along;");
        badInStart(1, "b = has ^( f );");
        badInStart(1, "i = i ^i;");
        inStart(2, "if if ( b , b , b ) { halt; }");
        inStart(0, "");
    }

    private static String ones(int more) {
        return "1" + Bench.times(more, "+1");
    }

    private static void tooManyTokens() {
        // 12 TOKENS beside the chain's, two for each + 1.
        good(1, "start{}round{let a=-" + ones(494) + ";}");
        bad(2, "start{}round{let a=--" + ones(494) + ";^}");
        bad(2, "start{}round{let a=-" + ones(495) + "^;}");
        bad(1, "start{}round{let a=--" + ones(494) + ";^)");
        bad(1, "start{}round{let a=--" + ones(494) + ";^@");
        bad(1, "start{}round{let a=-" + ones(494) + ";}^}");
        bad(2, "start{}round{let a=" + ones(495) + "+^" + ones(300) + ";}");
        bad(1, "start{}round{let a=-" + ones(495) + "^abcdefghijklm;}");
        bad(1, "start{}round{let a=" + ones(300) + "^@" + ones(500) + ";}");
    }

    private static void tooManyNames() {
        String end = "start { } round { }";
        good(0, "column a;column b;column c;column d;" + end);
        bad(2, "column a;column b;column c;column d;column ^e;" + end);
        bad(1, "column a;column b;column c;column d;column ^;" + end);
        bad(2, "column a;column b;column c;column d;column ^a;" + end);
        String states = "";
        for (int i = 0; i < 8; i++) {
            states += "node a" + i + ":bool=false;";
        }
        good(0, states + end);
        bad(2, states + "node ^b:int=1;" + end);
        good(0, "fold a:sum;fold b:sum;fold c:sum;fold d:sum;" + end);
        bad(2, "fold a:sum;fold b:sum;fold c:sum;fold d:sum;fold ^e:sum;" + end);
        good(0, "global a:sum;global b:sum;global c:sum;global d:sum;" + end);
        bad(2, "global a:sum;global b:sum;global c:sum;global d:sum;global ^e:sum;" + end);
        String lets = "";
        for (int i = 0; i < 8; i++) {
            lets += "let a" + i + "=1;";
        }
        good(16, "start {" + lets + "} round {" + lets + "}");
        bad(2, "start {" + lets + "let ^b=1; } round { }");
        bad(2, "start {" + lets + "if true { let ^b=1; } } round { }");
        good(10, "start { if true {" + lets + "} let a=1; } round { }");
        bad(2, "start { let z=1; if true {" + lets.replace("a7", "^a7") + "} } round { }");
    }

    private static void tooManyStatements() {
        good(120, "start {" + Bench.times(60, "halt;") + "} round {" + Bench.times(60, "halt;") + "}");
        bad(2, "start {" + Bench.times(60, "halt;") + "} round {" + Bench.times(60, "halt;") + "^halt;}");
        bad(2, "start {" + Bench.times(119, "halt;") + "if true { ^halt; } } round { }");
        bad(1, "start {" + Bench.times(120, "halt;") + "^; } round { }");
        bad(2, "start {" + Bench.times(120, "halt;") + "^zz = 1; } round { }");
        good(0, "start { } round { }");
    }

    private static void tooDeep() {
        inStart(12, Bench.times(12, "loop 1 {") + Bench.times(12, "}"));
        badInStart(2, Bench.times(12, "loop 1 {") + "loop 1 ^{" + Bench.times(13, "}"));
        badInStart(1, Bench.times(12, "loop 1 {") + "loop 1 ^}" + Bench.times(12, "}"));
        inStart(13, Bench.times(12, "loop 1 {") + "halt;" + Bench.times(12, "}"));
        badInStart(2, Bench.times(12, "loop 1 {") + "i = ^1;" + Bench.times(12, "}"));
        badInStart(1, Bench.times(12, "loop 1 {") + "i = ^;" + Bench.times(12, "}"));
        inStart(12, Bench.times(11, "loop 1 {") + "i = 1;" + Bench.times(11, "}"));
        badInStart(2, Bench.times(11, "loop 1 {") + "i = -^1;" + Bench.times(11, "}"));
        badInStart(2, Bench.times(12, "loop 1 {") + "if ^b { }" + Bench.times(12, "}"));
        inStart(1, "i = " + Bench.times(11, "(") + "1" + Bench.times(11, ")") + ";");
        badInStart(2, "i = " + Bench.times(12, "(") + "^1" + Bench.times(12, ")") + ";");
        badInStart(1, "i = " + Bench.times(12, "(") + "^" + Bench.times(12, ")") + ";");
        badInStart(2, "i = " + Bench.times(12, "(") + "^( 1" + Bench.times(13, ")") + ";");
        inStart(1, "i = " + Bench.times(11, "-") + "1;");
        badInStart(2, "i = " + Bench.times(12, "-") + "^1;");
        inStart(1, "b = " + Bench.times(11, "!") + "b;");
        badInStart(2, "b = " + Bench.times(12, "!") + "^b;");
        badInStart(1, "b = " + Bench.times(12, "!") + "^;");
        inStart(1, "i = " + Bench.times(11, "draw(") + "1" + Bench.times(11, ")") + ";");
        badInStart(2, "i = " + Bench.times(12, "draw(") + "^1" + Bench.times(12, ")") + ";");
        inStart(1, "i = " + Bench.times(11, "if(b,1,") + "1" + Bench.times(11, ")") + ";");
        badInStart(2, "i = " + Bench.times(11, "if(b,1,") + "if(^b,1,1" + Bench.times(12, ")") + ";");
        inStart(1, "i = " + Bench.times(5, "-(") + "-1" + Bench.times(5, ")") + ";");
        badInStart(2, "i = " + Bench.times(6, "-(") + "^1" + Bench.times(6, ")") + ";");
        inStart(2, "i = " + Bench.times(11, "(") + "1" + Bench.times(11, ")+1") + "; b = b;");
        inStart(1, "loop 100 { }");
        inStart(1, "loop 0 { }");
        badInStart(2, "loop ^101 { }");
        badInStart(1, "loop ^2147483648 { }");
    }

    private static void toldAlready() {
        String end = "start { } round { }";
        bad(3, "column a;column ^a;" + end);
        bad(3, "column a;node ^a:int=1;" + end);
        bad(3, "node a:int=1;fold ^a:sum;" + end);
        bad(3, "fold a:sum;global ^a:sum;" + end);
        bad(3, "global a:sum; start { let ^a = 1; } round { }");
        bad(3, "start { let a = 1; let ^a = 1; } round { }");
        bad(3, "start { let a = 1; if true { let ^a = 1; } } round { }");
        good(4, "start { if true { let a = 1; } else { let a = 1; } let a = 1; } round { }");
        good(2, "start { let a = 1; } round { let a = true; }");
        good(1, "node A:int=1; start { let a = 1; } round { }");
    }

    private static void wrongNames() {
        badInStart(4, "^z = 1;");
        badInStart(4, "^w = 1;");
        badInStart(4, "^f = 1;");
        badInStart(4, "^g = 1;");
        badInStart(4, "i = ^z;");
        badInStart(4, "i = ^w;");
        inStart(1, "i = f + g;");
        badInStart(4, "send ^z 1 along;");
        badInStart(4, "send ^g 1 along;");
        badInStart(4, "send ^i 1 along;");
        badInStart(4, "give ^f 1;");
        badInStart(4, "give ^i 1;");
        badInStart(4, "b = has ^g;");
        badInStart(4, "b = has ^i;");
        badInStart(4, "b = has ^z;");
        badInStart(4, "i = arc . ^w;");
        badInStart(4, "give g arc . ^w;");
        badInStart(4, "if arc . ^w == 1 { send f arc . w along; }");
        badInStart(4, "send f arc . ^i along;");
        badInStart(4, "send f arc . w along; i = arc . ^w;");
        badInStart(4, "send f arc . ^z along;");
        inStart(1, "send f if ( has f , ( - arc . w ) , draw ( arc . w ) ) against;");
        badInStart(4, "let a = ^a;");
        badInStart(4, "if b { let a = 1; } i = ^a;");
        badInStart(4, "loop 3 { i = ^a; let a = 1; }");
        inStart(3, "let a = 1; let c = a; a = c;");
    }

    private static void wrongKinds() {
        badInStart(5, "i = ^true;");
        badInStart(5, "b = ^1;");
        badInStart(5, "i = ^( b );");
        badInStart(5, "i = ^b && b;");
        badInStart(5, "b = ^i && b;");
        badInStart(5, "b = b && ^i;");
        badInStart(5, "b = b && b || ^i + 1;");
        badInStart(5, "b = b || ^( i );");
        badInStart(5, "b = ^i || i;");
        badInStart(5, "i = ^b + 1;");
        badInStart(5, "i = 1 - ^b;");
        badInStart(5, "i = 1 + 2 * ^b;");
        badInStart(5, "i = ^b / 2;");
        badInStart(5, "i = 2 % ^! b;");
        badInStart(5, "i = - ^b;");
        badInStart(5, "b = ! ^i;");
        badInStart(5, "b = ! ^- i;");
        badInStart(5, "b = i == ^b;");
        badInStart(5, "b = b != ^i + 1;");
        inStart(2, "b = b == b; b = i != i;");
        badInStart(5, "b = ^b < b;");
        badInStart(5, "b = i >= ^b;");
        badInStart(5, "i = ^i < i;");
        badInStart(5, "if ^i { }");
        badInStart(5, "i = if ( ^i , 1 , 2 );");
        badInStart(5, "i = if ( b , 1 , ^b );");
        badInStart(5, "i = ^if ( b , b , b );");
        badInStart(5, "b = ^if ( b , i , i );");
        badInStart(5, "i = draw ( ^b );");
        badInStart(5, "b = ^draw ( 2 );");
        badInStart(5, "send f ^b along;");
        badInStart(5, "send p ^i along;");
        badInStart(5, "send p ^arc . w along;");
        badInStart(5, "give g ^b;");
        badInStart(5, "give q ^i;");
        badInStart(5, "i = ^p;");
        badInStart(5, "i = ^q;");
        badInStart(5, "b = ^f;");
        badInStart(5, "b = ^g;");
        badInStart(5, "i = ^has f;");
        badInStart(5, "b = ^id;");
        badInStart(5, "b = ^turn;");
        badInStart(5, "b = ^nodes;");
        badInStart(5, "b = ^degree;");
        badInStart(5, "b = ^indegree;");
        badInStart(5, "let a = 1; a = ^b;");
        badInStart(5, "let a = b; a = ^1;");
        badInStart(5, "let a = i == 1; i = ^a;");
        String end = " start { } round { }";
        good(1, "fold f: least; fold h: first; start { let a = f + h; } round { }");
        good(1, "fold f: all; fold h: some; start { let a = f && h; } round { }");
        good(1, "global f: sum; global h: first; start { let a = f + h; } round { }");
        good(0, "fold f: most;" + end);
    }

    private static void anyKind() {
        // A NAME with FAULT 4 is of any kind, so nothing ahead of it is to blame.
        badInStart(4, "i = if ( b , ^z , 1 );");
        badInStart(5, "b = ^if ( b , z , 1 );");
        badInStart(4, "b = if ( b , ^z , b );");
        badInStart(5, "i = ^if ( b , b , z );");
        badInStart(4, "b = ( ^z );");
        badInStart(4, "i = ^z + 1;");
        badInStart(4, "b = ^z + 1;");
        badInStart(4, "b = ^z == 1;");
        badInStart(5, "i = ^( z == 1 );");
        badInStart(5, "b = ^- z;");
        badInStart(5, "i = ^! z;");
        badInStart(4, "b = - 1 == ^z;");
        badInStart(4, "i = has ^z;");
        badInStart(4, "i = 1 + has ^z;");
        badInStart(4, "b = b && has ^z;");
        badInStart(4, "b = arc . ^w;");
        badInStart(4, "b = b || arc . ^z;");
        badInStart(5, "b = ^draw ( z );");
        badInStart(4, "^z = 1 + b;");
        badInStart(4, "send ^z b along;");
        badInStart(4, "give ^z b;");
    }

    private static void whichFault() {
        // 1 and 2 go ahead of all others, wherever they are.
        bad(1, "column a; column a; start { b = true; } round { halt ^}");
        bad(2, "column a; column a; start { b = true; } round { loop ^101 { } }");
        // Of 1 and 2 the first.
        bad(2, "start { loop ^101 { } } round { @ }");
        bad(1, "start { ^@ } round { loop 101 { } }");
        bad(1, "start ^start @");
        // Of the others the one with the least place.
        bad(3, "column a; column ^a; start { b = true; } round { }");
        badInStart(5, "i = ^true; z = 1; let i = 2;");
        badInStart(4, "i = ^z; i = true; let i = 2;");
        badInStart(3, "let ^i = true + z;");
        badInStart(5, "b = ^1 + z;");
        badInStart(5, "b = b && ^( 1 + z );");
        badInStart(4, "b = b && ^z + 1;");
        // The ) and what stands behind it are looked at all the same.
        badInStart(5, "if ^1 { let i = z; }");
    }

    private static void lines() {
        Bench.read(x, "start { }\nround {\n a = 1; }\n");
        Bench.due("line of a FAULT 4", x.fault(1), 3);
        Bench.due("place of it", x.fault(0), 19);
        Bench.read(x, "start { }\nround {\n\n");
        Bench.due("line of the end", x.fault(1), 4);
        Bench.due("place of the end", x.fault(0), 19);
        Bench.read(x, "");
        Bench.due("line of nothing", x.fault(1), 1);
        Bench.due("place of nothing", x.fault(0), 0);
        Bench.read(x, "# one\n# two\n@");
        Bench.due("line behind remarks", x.fault(1), 3);
        Bench.read(x, "\n@");
        Bench.due("line behind a first 10", x.fault(1), 2);
        Bench.read(x, "start { } round { }");
        Bench.due("no FAULT then", x.fault(1), -2);
    }

    /** Nothing of the text before is read, where the new one ends in the midst of a TOKEN. */
    private static void behindALongerText() {
        begin();
        onNewObjects = false;
        good(1, "start{}round{let abcdefghijkl=1;}");
        bad(1, "start{}round{let abcdefghijk^");
        bad(1, "start{}round{let ^abcdefghijklmnop=1;}");
        bad(1, "start{}round{let abcdefghijkl^");
        bad(1, "start{}round{loop ^99999999999{}}");
        bad(1, "start{}round{loop 9^");
        bad(1, "start{}round{i^=====}");
        bad(1, "start{}round{i=^");
        bad(1, "start{}round{i^==");
        good(0, "start{}round{}#");
        bad(1, "start{}round{}^a");
    }
}
