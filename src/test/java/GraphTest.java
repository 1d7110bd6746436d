/** Promises 9 to 11: nodes, arc, weight. */
public final class GraphTest {
    private GraphTest() { }

    public static void main(String[] args) {
        nodes();
        arcs();
        weights();
        theRunGoes();
        Bench.finish();
    }

    private static void nodes() {
        VertexLanguage x = new VertexLanguage();
        Bench.due("nodes(40)", x.nodes(40), 1);
        Bench.due("nodes(41)", x.nodes(41), -1);
        Bench.due("nodes(0)", x.nodes(0), -1);
        Bench.due("nodes(-1)", x.nodes(-1), -1);
        Bench.due("nodes(MIN)", x.nodes(Integer.MIN_VALUE), -1);
        Bench.due("count(5)", x.count(5), 40);
        x.arc(39, 0);
        Bench.due("nodes(0) leaves the arcs", x.nodes(0), -1);
        Bench.due("count(6)", x.count(6), 1);
        Bench.due("nodes(40) again", x.nodes(40), 40);
        Bench.due("all arcs go", x.count(6), 0);
        Bench.due("nodes(1)", x.nodes(1), 40);
        Bench.due("nodes(3)", x.nodes(3), 1);
    }

    private static void arcs() {
        VertexLanguage x = new VertexLanguage();
        Bench.due("arc(0, 0) of one node", x.arc(0, 0), 0);
        Bench.due("arc(0, 1) of one node", x.arc(0, 1), -1);
        x.nodes(2);
        Bench.due("arc(0, 1)", x.arc(0, 1), 0);
        Bench.due("arc(0, 1) again", x.arc(0, 1), 1);
        Bench.due("arc(1, 0)", x.arc(1, 0), 2);
        Bench.due("arc(2, 0)", x.arc(2, 0), -1);
        Bench.due("arc(0, 2)", x.arc(0, 2), -1);
        Bench.due("arc(-1, 0)", x.arc(-1, 0), -1);
        Bench.due("arc(0, -1)", x.arc(0, -1), -1);
        Bench.due("arc(MAX, MIN)", x.arc(Integer.MAX_VALUE, Integer.MIN_VALUE), -1);
        for (int i = 3; i < 120; i++) {
            Bench.due("arc " + i, x.arc(i % 2, 1), i);
        }
        Bench.due("arc 120", x.arc(0, 1), -3);
        Bench.due("a bad arc where all is full", x.arc(2, 1), -1);
        Bench.due("count(6)", x.count(6), 120);
        x.nodes(2);
        Bench.due("arc(1, 1) behind nodes()", x.arc(1, 1), 0);
    }

    private static void weights() {
        VertexLanguage x = new VertexLanguage();
        Bench.due("weight of no arc", x.weight(0, 0, 5), 0);
        x.nodes(2);
        x.arc(0, 1);
        x.arc(1, 0);
        Bench.due("weight(0, 0, 5)", x.weight(0, 0, 5), 0);
        Bench.due("weight(0, 3, 6)", x.weight(0, 3, 6), 0);
        Bench.due("weight(1, 0, 7)", x.weight(1, 0, 7), 0);
        Bench.due("weight(0, 0, MIN)", x.weight(0, 0, Integer.MIN_VALUE), 5);
        Bench.due("weight(0, 0, 0)", x.weight(0, 0, 0), Integer.MIN_VALUE);
        Bench.due("weight(0, 3, 0)", x.weight(0, 3, 0), 6);
        Bench.due("weight(0, 4, 1)", x.weight(0, 4, 1), 0);
        Bench.due("weight(0, -1, 1)", x.weight(0, -1, 1), 0);
        Bench.due("weight(2, 0, 1)", x.weight(2, 0, 1), 0);
        Bench.due("weight(-1, 0, 1)", x.weight(-1, 0, 1), 0);
        Bench.due("weight(MAX, MAX, 1)", x.weight(Integer.MAX_VALUE, Integer.MAX_VALUE, 1), 0);
        Bench.due("bad ones change nothing", x.weight(1, 0, 8), 7);
        x.nodes(2);
        x.arc(0, 1);
        x.arc(0, 1);
        Bench.due("a new arc has 0", x.weight(1, 0, 8), 0);
    }

    private static void theRunGoes() {
        VertexLanguage x = new VertexLanguage();
        Bench.read(x, "column w;fold f:sum;start{send f arc.w along;}round{send f arc.w along;}");
        x.nodes(2);
        Bench.due("begin", x.begin(1), 1);
        x.nodes(0);
        x.arc(2, 2);
        Bench.due("a call that is BAD leaves the RUN", x.told(0), 0);
        x.arc(0, 1);
        Bench.due("arc(): the RUN is gone", x.told(0), -1);
        x.begin(1);
        x.nodes(2);
        Bench.due("nodes(): the RUN is gone", x.told(0), -1);
        x.arc(0, 1);
        x.begin(1);
        x.weight(0, 0, 9);
        Bench.due("weight(): the RUN stays", x.told(0), 0);
        x.run(1);
        Bench.due("and is told of it", x.message(1, 0), 9);
        x.weight(0, 0, 4);
        x.run(1);
        Bench.due("in each TURN", x.message(1, 0), 4);
        x.undo();
        Bench.due("undo() leaves weights", x.weight(0, 0, 0), 4);
    }
}
