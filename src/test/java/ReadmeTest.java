import java.io.IOException;
import java.lang.reflect.Method;
import java.nio.file.Files;
import java.nio.file.Path;
import java.util.ArrayList;
import java.util.Arrays;
import java.util.List;
import java.util.Map;
import java.util.Set;
import java.util.TreeSet;
import java.util.regex.Matcher;
import java.util.regex.Pattern;

/** Every call that README.md shows, with the answer that it shows; a line that this test can't read is wrong. */
public final class ReadmeTest {
    private static final Map<String, Integer> CONSTANTS = Map.of("BAD", VertexLanguage.BAD, "NONE",
        VertexLanguage.NONE, "FULL", VertexLanguage.FULL, "FAILED", VertexLanguage.FAILED);
    private static final Pattern BLOCK = Pattern.compile("```java\n(.*?)```", Pattern.DOTALL);
    private static final Pattern CALL = Pattern.compile("x\\.(\\w+)\\((.*)\\);\\s*// (-?\\w+)(: .*)?");
    private static final Pattern PUT = Pattern.compile("put\\(x, (\"[^\"]*\"(\\s*\\+ \"[^\"]*\")*)\\);");
    private static final String NEW = "VertexLanguage x = new VertexLanguage();";

    private static VertexLanguage x;
    private static int calls;
    private static final Set<String> shown = new TreeSet<>();

    private ReadmeTest() { }

    public static void main(String[] args) throws IOException, ReflectiveOperationException {
        String page = Files.readString(Path.of("README.md"));
        constants(page);
        for (String block : blocks(page)) {
            if (block.startsWith("static ")) {
                helper(block);
            } else {
                for (String statement : statements(block)) {
                    perform(statement);
                }
            }
        }
        Bench.due("the methods that README.md shows", shown.toString(), face().toString());
        Bench.finish();
    }

    // README.md shows this method, line for line.
    static boolean put(VertexLanguage x, String text) {
        for (int from = 0; from < text.length(); from += 20) {
            int[] n = new int[5];
            for (int i = 0; i < 20; i++) {
                int sign = from + i < text.length() ? text.charAt(from + i) : ' ';
                n[i / 4] = n[i / 4] << 8 | sign & 255;
            }
            if (x.feed(n[0], n[1], n[2], n[3], n[4]) == VertexLanguage.FULL) {
                return false;
            }
            x.end(Math.min(20, text.length() - from));
        }
        return true;
    }

    private static void constants(String page) {
        for (Map.Entry<String, Integer> c : CONSTANTS.entrySet()) {
            String row = "| `" + c.getKey() + "` | " + c.getValue() + " |";
            Bench.due("README.md has the row " + row, page.contains(row) ? 1 : 0, 1);
        }
    }

    private static List<String> blocks(String page) {
        List<String> all = new ArrayList<>();
        Matcher m = BLOCK.matcher(page);
        while (m.find()) {
            all.add(m.group(1));
        }
        return all;
    }

    private static void helper(String block) throws IOException {
        String own = Files.readString(Path.of("src/test/java/ReadmeTest.java"));
        String there = "    " + block.stripTrailing().replace("\n", "\n    ");
        Bench.due("the helper of README.md is the one of this test", own.contains(there) ? 1 : 0, 1);
    }

    /** Lines, but for those that go on with a + at the beginning of the next one. */
    private static List<String> statements(String block) {
        return Arrays.stream(block.split("\n(?!\\s*\\+)")).map(String::strip).filter(s -> !s.isEmpty()).toList();
    }

    private static void perform(String statement) throws ReflectiveOperationException {
        Matcher call = CALL.matcher(statement);
        Matcher put = PUT.matcher(statement);
        if (statement.equals(NEW)) {
            x = new VertexLanguage();
            calls = 0;
        } else if (put.matches()) {
            String text = put.group(1).replaceAll("\"\\s*\\+ \"", "").replace("\"", "").replace("\\n", "\n");
            calls += 2 * ((text.length() + 19) / 20);
            Bench.due(statement, put(x, text) ? 1 : 0, 1);
        } else if (call.matches()) {
            calls++;
            shown.add(call.group(1));
            Bench.due(statement, answer(call.group(1), call.group(2)), wanted(call.group(3)));
        } else {
            Bench.due("README.md shows [" + statement + "], which is no call", 0, 1);
        }
        Bench.due("calls of one object: " + (calls <= 512), calls <= 512 ? 1 : 0, 1);
    }

    private static int answer(String name, String arguments) throws ReflectiveOperationException {
        Object[] values = Arrays.stream(arguments.split(", ")).filter(s -> !s.isEmpty()).map(Integer::decode).toArray();
        for (Method m : VertexLanguage.class.getMethods()) {
            if (m.getName().equals(name) && m.getParameterCount() == values.length) {
                return (int) m.invoke(x, values);
            }
        }
        Bench.due("the class has " + name + " of " + values.length, 0, 1);
        return 0;
    }

    private static int wanted(String told) {
        return CONSTANTS.containsKey(told) ? CONSTANTS.get(told) : Integer.parseInt(told);
    }

    private static Set<String> face() {
        Set<String> names = new TreeSet<>();
        for (Method m : VertexLanguage.class.getDeclaredMethods()) {
            int open = m.getModifiers() & java.lang.reflect.Modifier.PUBLIC;
            if (open != 0) {
                names.add(m.getName());
            }
        }
        return names;
    }
}
