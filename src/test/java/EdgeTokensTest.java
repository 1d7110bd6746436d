/** The edges of the sentences about TOKENS: one method for each. */
public final class EdgeTokensTest {
    private static final String SIGNS = ";{}(),.:=<>+-*/%!";

    private EdgeTokensTest() { }

    public static void main(String[] args) {
        nameLength();
        nameFirstSign();
        nameOtherSigns();
        numberGreat();
        numberDigits();
        allSigns();
        longestSign();
        halfSigns();
        between();
        betweenAnywhere();
        remark();
        remarkEnd();
        mostTokens();
        tooManyTokens();
        tokensThatAreNone();
        Bench.finish();
    }

    private static boolean isLetter(int c) {
        return c >= 'a' && c <= 'z' || c >= 'A' && c <= 'Z';
    }

    private static boolean isDigit(int c) {
        return c >= '0' && c <= '9';
    }

    private static void nameLength() {
        Bench.sentence("a NAME (.. 12 at most)");
        String end = "start{}round{}";
        for (String twelve : new String[] {"abcdefghijkl", "ABCDEFGHIJKL", "a12345678901", "startstartst"}) {
            Edge.good(0, "column " + twelve + ";" + end);
            Edge.good(0, "node " + twelve + ":int=1;" + end);
            Edge.good(0, "fold " + twelve + ":sum;" + end);
            Edge.good(0, "global " + twelve + ":sum;" + end);
            Edge.good(2, "start{let " + twelve + "=1;" + twelve + "=" + twelve + ";}round{}");
            for (String more : new String[] {"m", "M", "0", "9", "m".repeat(3000)}) {
                String longer = twelve + more;
                Edge.bad(1, "column ^" + longer + ";" + end);
                Edge.bad(1, "node ^" + longer + ":int=1;" + end);
                Edge.bad(1, "fold ^" + longer + ":sum;" + end);
                Edge.bad(1, "global ^" + longer + ":sum;" + end);
                Edge.bad(1, "start{let ^" + longer + "=1;}round{}");
                Edge.bad(1, "start{let " + twelve + "=1;^" + longer + "=1;}round{}");
                Edge.bad(1, "start{let " + twelve + "=1;" + twelve + "=^" + longer + ";}round{}");
            }
        }
        // Twelve are told apart to the last sign.
        Edge.good(2, "start{let abcdefghijkl=1;let abcdefghijkm=2;}round{}");
        Edge.bad(4, "start{let abcdefghijkl=1;^abcdefghijkm=2;}round{}");
    }

    private static void nameFirstSign() {
        Bench.sentence("a NAME (a letter, ..)");
        for (int c = 0; c < 256; c++) {
            String text = "start{let " + (char) c + "=1;}round{}";
            if (isLetter(c)) {
                Edge.good(1, text);
            } else if (c == ' ' || c == 10) {
                Edge.bad(1, 11, text);
            } else {
                Edge.bad(1, c == '#' ? text.length() : 10, text);
            }
        }
        Edge.bad(1, "start{let ^1a=1;}round{}");
    }

    private static void nameOtherSigns() {
        Bench.sentence("a NAME (a letter, then letters, digits ..)");
        for (int c = 0; c < 256; c++) {
            String text = "start{let a" + (char) c + "=1;}round{}";
            if (isLetter(c) || isDigit(c) || c == ' ' || c == 10) {
                Edge.good(1, text);
            } else {
                Edge.bad(1, c == '#' ? text.length() : 11, text);
            }
            if (isLetter(c) || isDigit(c)) {
                Edge.good(2, "start{let a=1;let a" + (char) c + "=1;}round{}");
                Edge.bad(3, "start{let a" + (char) c + "=1;let ^a" + (char) c + "=1;}round{}");
            }
        }
    }

    private static void numberGreat() {
        Bench.sentence("a NUMBER (digits; 0 .. 2,147,483,647)");
        Edge.leaves(0, "node n:int=0;start{}round{}");
        Edge.leaves(0, "node n:int=1;start{n=0;}round{}");
        Edge.leaves(Integer.MAX_VALUE, "node n:int=2147483647;start{}round{}");
        Edge.leaves(-Integer.MAX_VALUE, "node n:int=-2147483647;start{}round{}");
        Edge.leaves(Integer.MAX_VALUE, "node n:int=0;start{n=2147483647;}round{}");
        Edge.leaves(-Integer.MAX_VALUE, "node n:int=0;start{n=-2147483647;}round{}");
        for (String great : new String[] {"2147483648", "2147483650", "3000000000", "4294967295", "4294967296", "4294967297",
            "9223372036854775807", "9223372036854775808", "18446744073709551616", "18446744073709551617",
            "00002147483648", "9".repeat(3000), "1" + "0".repeat(32), "1" + "0".repeat(64)}) {
            Edge.bad(1, "node n:int=^" + great + ";start{}round{}");
            Edge.bad(1, "node n:int=-^" + great + ";start{}round{}");
            Edge.bad(1, "start{let a=^" + great + ";}round{}");
            Edge.bad(1, "start{let a=-^" + great + ";}round{}");
            Edge.bad(1, "start{loop ^" + great + "{}}round{}");
        }
    }

    private static void numberDigits() {
        Bench.sentence("a NUMBER (digits ..)");
        Edge.leaves(1234567890, "node n:int=0;start{n=1234567890;}round{}");
        Edge.leaves(7, "node n:int=0;start{n=0000000000000000000000007;}round{}");
        Edge.leaves(Integer.MAX_VALUE, "node n:int=0;start{n=" + "0".repeat(3000) + "2147483647;}round{}");
        Edge.leaves(0, "node n:int=1;start{n=00;}round{}");
        Edge.bad(1, "start{let a=1^a;}round{}");
        Edge.bad(1, "start{let a=1 ^2;}round{}");
        Edge.bad(1, "start{let a=0^x1;}round{}");
        Edge.bad(1, "start{let a=1^.5;}round{}");
        Edge.bad(1, "start{let a=^.5;}round{}");
    }

    private static void allSigns() {
        Bench.sentence("the signs ; { } ( ) , . : = == != < <= > >= + - * / % && || !");
        Edge.prints("column w;node i:int=-1;node b:bool=true;fold f:sum;start{"
            + "i=i+1-i*2/i%3;b=i==1&&i!=2||i<3&&i<=4||i>5&&i>=6&&!b;i=if(b,1,2)*(3+4);send f arc.w along;}round{}",
            "column w ; node i : int = - 1 ; node b : bool = true ; fold f : sum ; start { "
            + "i = i + 1 - i * 2 / i % 3 ; b = i == 1 && i != 2 || i < 3 && i <= 4 || i > 5 && i >= 6 && ! b ; "
            + "i = if ( b , 1 , 2 ) * ( 3 + 4 ) ; send f arc . w along ; } round { }");
    }

    private static void longestSign() {
        Bench.sentence("the signs .. (the longest that is there)");
        for (String pair : new String[] {"==", "!=", "<=", ">="}) {
            Edge.good(1, "start{let a=1" + pair + "1;}round{}");
            Edge.bad(1, "start{let a=1" + pair + "^=1;}round{}");
            Edge.bad(1, "start{let a=1" + pair + "^==1;}round{}");
        }
        Edge.bad(1, "start{let a=1^= =1;}round{}");
        Edge.bad(1, "start{let a=1^! =1;}round{}");
        Edge.bad(1, "start{let a=1< ^=1;}round{}");
        Edge.bad(1, "start{let a=1> ^=1;}round{}");
        Edge.bad(1, "start{let a=1<^>2;}round{}");
        Edge.bad(1, "start{let a=1^=<2;}round{}");
        Edge.bad(1, "start{let a^==1;}round{}");
        Edge.bad(1, "start{let a=^!=true;}round{}");
        Edge.good(1, "start{let a=1<-1;}round{}");
        Edge.good(1, "start{let a=1==-1;}round{}");
        Edge.good(1, "start{let a=!!true;}round{}");
        Edge.good(1, "start{let a=true!=!true;}round{}");
    }

    private static void halfSigns() {
        Bench.sentence("the signs .. && || (a half is no TOKEN)");
        Edge.good(1, "start{let a=true&&true;}round{}");
        Edge.good(1, "start{let a=true||true;}round{}");
        for (char c : new char[] {'&', '|'}) {
            Edge.bad(1, "start{let a=true^" + c + "true;}round{}");
            Edge.bad(1, "start{let a=true^" + c + " " + c + "true;}round{}");
            Edge.bad(1, "start{let a=true" + c + c + "^" + c + "true;}round{}");
            Edge.bad(1, "start{let a=true^" + c);
            Edge.bad(1, "start{let a=true" + c + c + "^");
        }
        Edge.bad(1, "start{let a=true^&|true;}round{}");
        Edge.bad(1, "start{let a=true^|&true;}round{}");
    }

    private static void between() {
        Bench.sentence("Between them 32, 10");
        for (int c = 0; c < 256; c++) {
            String text = "start{" + (char) c + "}round{}";
            if (c == ' ' || c == 10) {
                Edge.good(0, text);
            } else if (c == '#') {
                Edge.bad(1, text.length(), text);
            } else {
                Edge.bad(1, isLetter(c) || c == '}' ? 7 : 6, text);
            }
            String behind = "start{}round{}" + (char) c;
            if (c == ' ' || c == 10 || c == '#') {
                Edge.good(0, behind);
            } else {
                Edge.bad(1, 14, behind);
            }
        }
    }

    private static void betweenAnywhere() {
        Bench.sentence("Between them 32, 10 (none where none is needed, or many)");
        Edge.good(1, "column w;start{let a=1;}round{}");
        Edge.good(1, "\n\n  column\n\n \nw\n;\nstart\n{  let  \n a\n=\n1\n;}   round\n\n{\n}\n\n");
        Edge.good(0, " ".repeat(3986) + "start{}round{}");
        Edge.good(0, "start{" + "\n".repeat(3986) + "}round{}");
        Edge.bad(1, "^columnw;start{}round{}");
        Edge.bad(1, "^startround{}");
        Edge.bad(4, "start{^leta=1;}round{}");
        Edge.bad(1, "^st art{}round{}");
        Edge.bad(1, "start{let a=1 ^2;}round{}");
    }

    private static void remark() {
        Bench.sentence("from a # on all up to the next 10 is passed over");
        StringBuilder all = new StringBuilder();
        for (int c = 0; c < 256; c++) {
            if (c != 10) {
                all.append((char) c);
            }
        }
        Edge.good(0, "#" + all + "\nstart{}round{}");
        Edge.good(0, "#\nstart{}round{}");
        Edge.good(0, "##\n#\n # # \nstart{}round{}");
        Edge.good(0, "start#{\n{#}\n}#\nround#\n{#@&|\n}");
        Edge.good(1, "start{let a=12#3\n;}round{}");
        Edge.bad(1, "^sta#\nrt{}round{}");
        Edge.bad(1, "start{let a=1#\n^2;}round{}");
        Edge.bad(1, "start{let a=1<#\n^=2;}round{}");
        Edge.good(0, "#" + "x".repeat(3984) + "\nstart{}round{}");
        Edge.prints("start{#halt;\n}round{}#", "start { } round { }");
        Edge.good(0, "start{}round{}# no 10 behind it");
        Edge.good(0, "start{}round{}#");
        Edge.bad(1, "# nothing else^");
    }

    private static void remarkEnd() {
        Bench.sentence(".. up to the next 10 (no other byte)");
        for (int c = 0; c < 256; c++) {
            String text = "#" + (char) c + "start{}round{}";
            if (c == 10) {
                Edge.good(0, text);
            } else {
                Edge.bad(1, text.length(), text);
            }
        }
        Edge.good(0, "start{}round{}#\n");
        Edge.bad(1, "start{}round{}#\n^}");
    }

    /** A text of so many TOKENS, 11 or more: from the ninth on, at 19, each is one byte. */
    private static String ofTokens(int tokens) {
        return "start{}round{let a=" + (tokens % 2 == 0 ? "-" : "") + "1" + "+1".repeat((tokens - 11) / 2) + ";}";
    }

    private static void mostTokens() {
        Bench.sentence("1,000 TOKENS at most");
        for (int tokens = 990; tokens <= 1000; tokens++) {
            Edge.good(1, ofTokens(tokens));
        }
        Edge.good(1, "# these are none \n" + ofTokens(1000) + "  # none \n # none");
        Edge.good(1, ofTokens(1000).replace("+1+1+1;", " + 1\n#\n+1 + 1 ;"));
        Edge.prints(ofTokens(1000), "start { } round { let a = - 1" + " + 1".repeat(494) + " ; }");
    }

    private static void tooManyTokens() {
        Bench.sentence("2 too many: TOKENS");
        int thousandAndFirst = 19 + 1001 - 9;
        for (int tokens = 1001; tokens <= 1010; tokens++) {
            Edge.bad(2, thousandAndFirst, ofTokens(tokens));
        }
        Edge.bad(2, thousandAndFirst, ofTokens(3800));
        Edge.bad(2, thousandAndFirst, ofTokens(1001) + "# a remark");
        Edge.bad(2, thousandAndFirst, ofTokens(1003).substring(0, thousandAndFirst + 1));
        Edge.bad(1, thousandAndFirst, ofTokens(1003).substring(0, thousandAndFirst));
    }

    private static void tokensThatAreNone() {
        Bench.sentence("1 no TOKEN, a NAME, NUMBER that is too long or great");
        for (int c = 0; c < 256; c++) {
            boolean stands = isLetter(c) || isDigit(c) || c == ' ' || c == 10 || c == '#' || SIGNS.indexOf(c) >= 0;
            String text = "start{let a=1;a=a " + (char) c + " +1;}round{}";
            if (!stands) {
                Edge.bad(1, 18, text);
                Edge.bad(1, 18, text.replace("}round{}", ""));
            }
        }
        Edge.bad(1, "^@");
        Edge.bad(1, "start{}round{}^@");
        Edge.bad(1, "^abcdefghijklm");
        Edge.bad(1, "start{}round{}^2147483648");
    }
}
