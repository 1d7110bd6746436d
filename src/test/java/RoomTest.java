import java.lang.management.ManagementFactory;

/** All calls of a run live in one small room: only the constructor makes rows, no call makes anything. */
public final class RoomTest {
    private static final com.sun.management.ThreadMXBean BEAN =
        (com.sun.management.ThreadMXBean) ManagementFactory.getThreadMXBean();

    private static final int OBJECTS = 20;

    private RoomTest() { }

    public static void main(String[] args) {
        int[][] text = textAsNumbers();
        use(new VertexLanguage(), text, 0);
        VertexLanguage[] all = new VertexLanguage[OBJECTS];
        long before = BEAN.getCurrentThreadAllocatedBytes();
        for (int i = 0; i < OBJECTS; i++) {
            all[i] = new VertexLanguage();
        }
        long made = (BEAN.getCurrentThreadAllocatedBytes() - before) / OBJECTS;
        Bench.due("a new object is small", made < 300_000 ? 1 : made, 1);
        before = BEAN.getCurrentThreadAllocatedBytes();
        for (int i = 0; i < OBJECTS; i++) {
            use(all[i], text, i);
        }
        long used = BEAN.getCurrentThreadAllocatedBytes() - before;
        Bench.due("calls make nothing", used < 20_000 ? 0 : used, 0);
        Bench.finish();
    }

    private static int[][] textAsNumbers() {
        StringBuilder s = new StringBuilder("column w;node n:int=1;node b:bool=true;fold f:sum;global g:most;start{");
        for (int i = 0; i < 8; i++) {
            s.append("let v").append(i).append("=((n+1)*(2-draw(9)))%7;");
        }
        s.append("}round{loop 9{n=n*3+f;if n%2==0&&b{send f arc.w+n along;}else{give g n;b=!b;}}");
        s.append("n=1").append("+(n-1)".repeat(120)).append(";}");
        String text = s.toString();
        int[][] all = new int[(text.length() + 19) / 20][];
        for (int i = 0; i < all.length; i++) {
            all[i] = Bench.numbers(text, 20 * i);
        }
        return all;
    }

    private static void use(VertexLanguage x, int[][] text, int seed) {
        for (int[] n : text) {
            x.feed(n[0], n[1], n[2], n[3], n[4]);
        }
        require("program()", x.program() > 0);
        x.nodes(40);
        for (int arc = 0; arc < 120; arc++) {
            x.arc(arc % 40, arc * 7 % 40);
            x.weight(arc, 0, arc);
        }
        require("begin()", x.begin(seed) == 1);
        for (int i = 0; i < 6; i++) {
            require("run(100)", x.run(100) == 100);
        }
        x.undo();
        require("told(8)", x.told(8) == 5);
        require("print(-1)", x.print(-1) > 0);
    }

    private static void require(String call, boolean fine) {
        Bench.due(call, fine ? 1 : 0, 1);
    }
}
