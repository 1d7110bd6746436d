/** Promises 7 and 8: name, count. */
public final class NameTest {
    private static final VertexLanguage x = new VertexLanguage();

    private NameTest() { }

    public static void main(String[] args) {
        names();
        counts();
        Bench.finish();
    }

    private static void names() {
        Bench.feed(x, "abc");
        Bench.due("no program: name()", x.name(), -1);
        Bench.due("the tape stays: feed", x.feed(0, 0, 0, 0, 0), 23);
        x.end(0);
        x.program();
        Bench.due("of a text with a FAULT: name()", Bench.named(x, "abc"), -1);
        Bench.due("the tape stays: feed", x.feed(0, 0, 0, 0, 0), 23);
        x.program();
        String text = "fold f:sum;column c;node n:int=1;global g:all;global abcdefghijkl:sum;node n1:bool=true;"
            + "column C;start{let v=1;}round{}";
        Bench.due("program()", Bench.read(x, text), 1);
        Bench.due("name c", Bench.named(x, "c"), 0);
        Bench.due("name C", Bench.named(x, "C"), 1);
        Bench.due("name n", Bench.named(x, "n"), 100);
        Bench.due("name n1", Bench.named(x, "n1"), 101);
        Bench.due("name f", Bench.named(x, "f"), 200);
        Bench.due("name g", Bench.named(x, "g"), 300);
        Bench.due("name abcdefghijkl", Bench.named(x, "abcdefghijkl"), 301);
        Bench.due("the tape is empty then", x.feed(0, 0, 0, 0, 0), 20);
        Bench.due("name of zeros", x.name(), -2);
        Bench.due("the tape is empty then", x.feed(0, 0, 0, 0, 0), 20);
        x.end(0);
        Bench.due("name of nothing", x.name(), -2);
        Bench.due("a let", Bench.named(x, "v"), -2);
        Bench.due("a name and a blank", Bench.named(x, "n "), -2);
        Bench.due("a part of a name", Bench.named(x, "abcdefghijk"), -2);
        Bench.due("more than a name", Bench.named(x, "abcdefghijklm"), -2);
        Bench.due("a word", Bench.named(x, "start"), -2);
        Bench.due("a long one", Bench.named(x, Bench.times(4000, "n")), -2);
        Bench.read(x, "start{}round{}");
        Bench.due("the program before", Bench.named(x, "n"), -2);
    }

    private static void counts() {
        Bench.read(x, "column a;node b:int=1;node c:int=1;fold d:sum;fold e:sum;fold f:sum;global g:sum;global h:sum;"
            + "global i:sum;global j:sum;start{let k=1;halt;}round{if true{halt;}loop 2{}halt;}");
        Bench.due("count(0)", x.count(0), 1);
        Bench.due("count(1)", x.count(1), 2);
        Bench.due("count(2)", x.count(2), 3);
        Bench.due("count(3)", x.count(3), 4);
        Bench.due("count(4)", x.count(4), 6);
        x.nodes(7);
        x.arc(0, 1);
        x.arc(0, 1);
        Bench.due("count(5)", x.count(5), 7);
        Bench.due("count(6)", x.count(6), 2);
        Bench.due("count(7)", x.count(7), -1);
        Bench.due("count(-1)", x.count(-1), -1);
        Bench.due("count(MAX)", x.count(Integer.MAX_VALUE), -1);
        Bench.read(x, "column a;column a;start{halt;}round{}");
        for (int what = 0; what < 5; what++) {
            Bench.due("no program: count(" + what + ")", x.count(what), 0);
        }
        Bench.due("the graph stays: count(5)", x.count(5), 7);
        Bench.due("the graph stays: count(6)", x.count(6), 2);
    }
}
