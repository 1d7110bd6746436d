import java.util.ArrayList;
import java.util.List;
import java.util.function.Consumer;
import java.util.function.ToIntFunction;

/** Two objects made alike, one of which gets one call more: nothing else may be seen to differ behind it. */
final class Twins {
    private static final int MOST_NODES = 4;

    private final List<String> log = new ArrayList<>();

    private Twins() { }

    /** The call answers what is due, and leaves all as it was but what the calls told as exceptions answer. */
    static void untouched(String what, Consumer<VertexLanguage> make, ToIntFunction<VertexLanguage> call, int due,
            String... exceptions) {
        for (int look = 0; look < 9; look++) {
            VertexLanguage x = new VertexLanguage();
            make.accept(x);
            Bench.due(what, call.applyAsInt(x), due);
            VertexLanguage y = new VertexLanguage();
            make.accept(y);
            same(what, looked(look, x), looked(look, y), List.of(exceptions));
        }
    }

    private static void same(String what, List<String> got, List<String> want, List<String> exceptions) {
        for (int i = 0; i < Math.max(got.size(), want.size()); i++) {
            String g = i < got.size() ? got.get(i) : "nothing";
            String w = i < want.size() ? want.get(i) : "nothing";
            if (!g.equals(w) && !exceptions.contains(w.replaceAll(" .*", ""))) {
                Bench.due("behind " + what, g, w);
                return;
            }
        }
    }

    private static List<String> looked(int look, VertexLanguage x) {
        Twins t = new Twins();
        switch (look) {
            case 0 -> t.all(x);
            case 1 -> t.printed(x);
            case 2 -> t.undone(x);
            case 3 -> t.runOn(x);
            case 4 -> t.graph(x);
            case 5 -> t.tape(x);
            case 6 -> t.name(x);
            case 7 -> t.begunAgain(x);
            default -> t.nodes(x);
        }
        return t.log;
    }

    private void note(String call, int answer) {
        log.add(call.replace(" ", "") + " = " + answer);
    }

    private void all(VertexLanguage x) {
        for (int i = 0; i < 7; i++) {
            note("count(" + i + ")", x.count(i));
        }
        note("fault(0)", x.fault(0));
        note("fault(1)", x.fault(1));
        for (int i = 0; i < 10; i++) {
            note("told(" + i + ")", x.told(i));
        }
        values(x);
    }

    private void values(VertexLanguage x) {
        for (int node = 0; node < MOST_NODES; node++) {
            note("halted(" + node + ")", x.halted(node));
            for (int k = 0; k < 3; k++) {
                note("state(" + node + "," + k + ")", x.state(node, k));
                note("message(" + node + "," + k + ")", x.message(node, k));
                note("messages(" + node + "," + k + ")", x.messages(node, k));
            }
        }
        for (int k = 0; k < 3; k++) {
            note("global(" + k + ")", x.global(k));
        }
    }

    private void printed(VertexLanguage x) {
        int size = x.print(-1);
        note("print(-1)", size);
        for (int i = 0; i < Math.min(size, 240); i++) {
            note("print(" + i + ")", x.print(i));
        }
    }

    private void undone(VertexLanguage x) {
        for (int i = 0; i < 4; i++) {
            note("undo()", x.undo());
        }
        note("told(0)", x.told(0));
        note("told(8)", x.told(8));
        values(x);
        for (int i = 0; i < 4; i++) {
            note("undo()", x.undo());
        }
        values(x);
    }

    private void runOn(VertexLanguage x) {
        note("run(1)", x.run(1));
        values(x);
        note("run(2)", x.run(2));
        values(x);
        note("told(8)", x.told(8));
        note("told(9)", x.told(9));
    }

    private void graph(VertexLanguage x) {
        int arcs = x.count(6);
        for (int arc = 0; arc < arcs; arc++) {
            note("weight", x.weight(arc, arc % 4, 5));
        }
        note("arc(0,0)", x.arc(0, 0));
        note("count(6)", x.count(6));
    }

    private void tape(VertexLanguage x) {
        note("feed", x.feed(0x20202020, 0x20202020, 0x20202020, 0x20202020, 0x20202020));
        note("program()", x.program());
        note("fault(0)", x.fault(0));
        note("fault(1)", x.fault(1));
        printed(x);
    }

    private void name(VertexLanguage x) {
        note("name()", x.name());
        note("feed", x.feed(0, 0, 0, 0, 0));
    }

    private void begunAgain(VertexLanguage x) {
        note("begin(5)", x.begin(5));
        note("run(3)", x.run(3));
        values(x);
    }

    private void nodes(VertexLanguage x) {
        note("nodes(3)", x.nodes(3));
        note("arc(2,1)", x.arc(2, 1));
        note("weight(0,0,5)", x.weight(0, 0, 5));
    }

    // ---- objects to begin with

    static final String TEXT = "column w;node n:int=3;node b:bool=true;node m:int=-7;fold f:sum;fold h:first;fold l:least;"
        + "global g:sum;global a:all;global t:most;start{send f id along;give g n;if id==3{halt;}}"
        + "round{n=n*3+f;b=!b;m=draw(100);send h m against;send l n+arc.w along;give g n;give a b;give t m;"
        + "n=n+7/(9-turn);if id==2{halt;}}";

    static void fresh(VertexLanguage x) {
    }

    /** Some bytes on the tape that are no NAME. */
    static void fed(VertexLanguage x) {
        Bench.feed(x, "start{}round{halt;halt;}");
    }

    static void faulty(VertexLanguage x) {
        Bench.read(x, "column a;\ncolumn a;start{}round{}");
        graphed(x);
        fed(x);
    }

    static void read(VertexLanguage x) {
        Bench.read(x, TEXT);
        graphed(x);
        Bench.feed(x, "b");
    }

    /** TURNS 0 to 8 are done, TURN 9 has failed. */
    static void running(VertexLanguage x) {
        Bench.read(x, TEXT);
        graphed(x);
        x.begin(11);
        x.run(100);
        fed(x);
    }

    /** One TURN can be undone. */
    static void early(VertexLanguage x) {
        Bench.read(x, TEXT);
        graphed(x);
        x.begin(12);
        x.run(1);
        Bench.feed(x, "b");
    }

    private static void graphed(VertexLanguage x) {
        x.nodes(4);
        for (int arc = 0; arc < 7; arc++) {
            x.arc(arc % 4, (arc * arc + 1) % 4);
            x.weight(arc, 0, 10 * arc + 1);
            x.weight(arc, 3, 100 + arc);
        }
    }

    static List<Consumer<VertexLanguage>> everywhere() {
        return List.of(Twins::fresh, Twins::fed, Twins::faulty, Twins::read, Twins::running, Twins::early);
    }

    static List<Consumer<VertexLanguage>> withoutProgram() {
        return List.of(Twins::fresh, Twins::fed, Twins::faulty);
    }

    static List<Consumer<VertexLanguage>> withoutRun() {
        return List.of(Twins::fresh, Twins::fed, Twins::faulty, Twins::read);
    }

    static List<Consumer<VertexLanguage>> withRun() {
        return List.of(Twins::running, Twins::early);
    }

    static void untouched(String what, List<Consumer<VertexLanguage>> makes, ToIntFunction<VertexLanguage> call, int due) {
        for (Consumer<VertexLanguage> make : makes) {
            untouched(what, make, call, due);
        }
    }
}
