/** Promise 6: print. */
public final class PrintTest {
    private static final String TOLD = "column w ; node i : int = 1 ; node b : bool = true ; fold f : sum ; ";

    private PrintTest() { }

    public static void main(String[] args) {
        asWritten();
        bounds();
        neededBrackets();
        needlessBrackets();
        Bench.finish();
    }

    private static void prints(String text, String want) {
        Edge.prints(text, want);
        Bench.due("how many bytes of " + text, Edge.reading(text).print(-1), want.length());
        Edge.prints(want, want);
    }

    private static void exp(String statement, String want) {
        prints(TOLD + "start{" + statement + "}round{}", TOLD + "start { " + want + " } round { }");
    }

    private static void same(String statement) {
        exp(statement.replace(" ", ""), statement);
    }

    private static void asWritten() {
        prints("start{}round{}", "start { } round { }");
        prints("# none\nstart\n{ }#\n  round{halt;}  ", "start { } round { halt ; }");
        prints("column Ab1;node n:int=-007;node m:bool=false;fold f:least;global g:some;start{n=0010;}round{}",
            "column Ab1 ; node n : int = - 007 ; node m : bool = false ; fold f : least ; global g : some ;"
            + " start { n = 0010 ; } round { }");
        prints("global g:most;start{let a=1<=2;loop 03{give g draw(9);}if a{halt;}else{if a{}}}round{}",
            "global g : most ; start { let a = 1 <= 2 ; loop 03 { give g draw ( 9 ) ; } if a { halt ; }"
            + " else { if a { } } } round { }");
        exp("send f arc.w against;", "send f arc . w against ;");
        exp("b=has f||!b;", "b = has f || ! b ;");
    }

    private static void bounds() {
        VertexLanguage x = Edge.reading("start{}round{}");
        Bench.due("print(0)", x.print(0), 's');
        Bench.due("print(18)", x.print(18), '}');
        Bench.due("print(19)", x.print(19), -1);
        Bench.due("print(-2)", x.print(-2), -1);
        Bench.due("print(MIN)", x.print(Integer.MIN_VALUE), -1);
        Bench.due("print(MAX)", x.print(Integer.MAX_VALUE), -1);
        Bench.feed(x, "start");
        Bench.due("the tape does not matter", x.print(0), 's');
        x.program();
        Bench.due("no program: print(0)", x.print(0), -1);
        Bench.due("no program: print(-1)", x.print(-1), -1);
        String zeros = Bench.times(3900, "0");
        prints("start{let a=" + zeros + ";}round{}", "start { let a = " + zeros + " ; } round { }");
    }

    private static void neededBrackets() {
        same("i = 1 - ( 2 + 3 ) ;");
        same("i = 1 + ( 2 + 3 ) ;");
        same("i = 2 * ( 3 * 4 ) ;");
        same("i = 2 * ( 3 / 4 ) ;");
        same("i = 2 % ( 3 + 4 ) ;");
        same("i = ( 2 + 3 ) * 4 ;");
        same("i = - ( 1 + 2 ) ;");
        same("i = - ( 1 * 2 ) ;");
        same("b = ! ( b && b ) ;");
        same("b = ! ( i == 1 ) ;");
        same("b = b && ( b && b ) ;");
        same("b = b || ( b || b ) ;");
        same("b = b && ( b || b ) ;");
        same("b = ( b || b ) && b ;");
        same("b = ( i < 1 ) == b ;");
        same("b = b == ( i < 1 ) ;");
        same("b = ( b && b ) == b ;");
        same("b = b != ( b || b ) ;");
        same("i = 1 - ( 2 - ( 3 - 4 ) ) ;");
    }

    private static void needlessBrackets() {
        exp("i=(1);", "i = 1 ;");
        exp("i=((((1))));", "i = 1 ;");
        exp("i=(1+2)+3;", "i = 1 + 2 + 3 ;");
        exp("i=((1-2)+3)-4;", "i = 1 - 2 + 3 - 4 ;");
        exp("i=(1*2)+(3/4);", "i = 1 * 2 + 3 / 4 ;");
        exp("i=(1*2)%3;", "i = 1 * 2 % 3 ;");
        exp("i=(-1)*(-2);", "i = - 1 * - 2 ;");
        exp("i=-(-(1));", "i = - - 1 ;");
        exp("i=(-1)-(-1);", "i = - 1 - - 1 ;");
        exp("b=(b&&b)||(b&&b);", "b = b && b || b && b ;");
        exp("b=(b||b)||b;", "b = b || b || b ;");
        exp("b=(b&&b)&&(i<1);", "b = b && b && i < 1 ;");
        exp("b=(i+1)<(i*2);", "b = i + 1 < i * 2 ;");
        exp("b=!(!(b));", "b = ! ! b ;");
        exp("b=!(has f);", "b = ! has f ;");
        exp("i=draw((1+2));", "i = draw ( 1 + 2 ) ;");
        exp("i=(draw(1))*(if((b),(1),(2+3)));", "i = draw ( 1 ) * if ( b , 1 , 2 + 3 ) ;");
        exp("if(b){halt;}", "if b { halt ; }");
        exp("if(if(b,b,b)){}", "if if ( b , b , b ) { }");
        exp("send f(-arc.w)along;", "send f - arc . w along ;");
        exp("i=(((1+2)))*3;", "i = ( 1 + 2 ) * 3 ;");
        exp("i=((1+2)*3)+((4));", "i = ( 1 + 2 ) * 3 + 4 ;");
        exp("i=((1+(2)))+(((3+(4))));", "i = 1 + 2 + ( 3 + 4 ) ;");
        exp("let a=(b==b);", "let a = b == b ;");
    }
}
