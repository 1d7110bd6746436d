/** What the tests of the edges share. No object here is used for more than 512 calls. */
final class Edge {
    private static final int PRINTS_OF_ONE = 250;

    private Edge() { }

    /** A new object that has read the text. */
    static VertexLanguage reading(String text) {
        VertexLanguage x = new VertexLanguage();
        Bench.read(x, text);
        return x;
    }

    static void good(int statements, String text) {
        VertexLanguage x = new VertexLanguage();
        Bench.due("program() of [" + text + "]", Bench.read(x, text), statements);
        Bench.due("fault(0) of [" + text + "]", x.fault(0), VertexLanguage.NONE);
        Bench.due("begin() of [" + text + "]", x.begin(1), 1);
    }

    /** A ^ stands before the TOKEN that is to blame. */
    static void bad(int fault, String marked) {
        int place = marked.indexOf('^');
        bad(fault, place, marked.substring(0, place) + marked.substring(place + 1));
    }

    static void bad(int fault, int place, String text) {
        VertexLanguage x = new VertexLanguage();
        Bench.due("program() of [" + text + "]", Bench.read(x, text), -10 - fault);
        Bench.due("fault(0) of [" + text + "]", x.fault(0), place);
        Bench.due("begin() of [" + text + "]", x.begin(1), VertexLanguage.BAD);
    }

    /** What a text is printed as: each object is asked for a part of it. */
    static String printed(String text) {
        StringBuilder s = new StringBuilder();
        int size = reading(text).print(-1);
        for (int from = 0; from < size; from += PRINTS_OF_ONE) {
            VertexLanguage x = reading(text);
            for (int i = from; i < Math.min(size, from + PRINTS_OF_ONE); i++) {
                s.append((char) x.print(i));
            }
        }
        return size < 0 ? "no program" : s.toString();
    }

    static void prints(String text, String want) {
        Bench.due("printed [" + text + "]", printed(text), want);
    }

    /** A RUN that has begun, on a graph whose arcs are told as pairs of nodes. */
    static VertexLanguage begun(String text, int nodes, int... ends) {
        VertexLanguage x = new VertexLanguage();
        int answer = Bench.read(x, text);
        Bench.due("program() of [" + text + "] is good", answer >= 0 ? 0 : answer, 0);
        x.nodes(nodes);
        for (int i = 0; i + 1 < ends.length; i += 2) {
            x.arc(ends[i], ends[i + 1]);
        }
        x.begin(1);
        return x;
    }

    /** What state 0 of one node without arcs is behind TURN 0 of a program. */
    static void leaves(int want, String text) {
        VertexLanguage x = begun(text, 1);
        Bench.due("run(1) of [" + text + "]", x.run(1), 1);
        Bench.due("state(0, 0) behind [" + text + "]", x.state(0, 0), want);
    }
}
