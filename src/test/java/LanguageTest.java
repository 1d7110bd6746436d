import java.io.IOException;
import java.lang.reflect.Constructor;
import java.lang.reflect.Field;
import java.lang.reflect.Method;
import java.lang.reflect.Modifier;
import java.nio.file.Files;
import java.nio.file.Path;
import java.util.ArrayList;
import java.util.Arrays;
import java.util.List;
import java.util.Set;
import java.util.TreeSet;
import java.util.regex.Matcher;
import java.util.regex.Pattern;

/** What of ../shared/LANGUAGE.md can be seen from the source and the compiled class. */
public final class LanguageTest {
    private static final Set<String> FACE = new TreeSet<>(List.of("feed", "end", "program", "fault", "print", "name",
        "count", "nodes", "arc", "weight", "begin", "run", "undo", "told", "state", "message", "messages", "global",
        "halted"));

    private LanguageTest() { }

    public static void main(String[] args) throws IOException {
        String source = Files.readString(Path.of("src/main/java/VertexLanguage.java"));
        String code = source.replaceAll("(?s)/\\*.*?\\*/", "").replaceAll("//[^\n]*", "")
            .replaceAll("\"[^\"\n]*\"", "\"\"").replaceAll("'(\\\\.|[^'])'", "' '");
        face();
        classesInside();
        forbidden(code);
        library(code);
        methodLengths(code);
        Bench.finish();
    }

    private static void face() {
        Class<?> c = VertexLanguage.class;
        Set<String> open = new TreeSet<>();
        for (Method m : c.getDeclaredMethods()) {
            if (!Modifier.isPrivate(m.getModifiers())) {
                open.add(m.getName());
                Bench.due(m.getName() + " is public", Modifier.isPublic(m.getModifiers()) ? 1 : 0, 1);
            }
        }
        Bench.due("the face", open.toString(), FACE.toString());
        Bench.due("public and final", c.getModifiers() & (Modifier.PUBLIC | Modifier.FINAL),
            Modifier.PUBLIC | Modifier.FINAL);
        Set<String> fields = new TreeSet<>();
        for (Field f : c.getDeclaredFields()) {
            if (!Modifier.isPrivate(f.getModifiers())) {
                fields.add(f.getName());
            }
        }
        Bench.due("the constants", fields.toString(), "[BAD, FAILED, FULL, NONE]");
        Bench.due("one constructor", c.getDeclaredConstructors().length, 1);
    }

    private static void classesInside() {
        List<Class<?>> all = new ArrayList<>(Arrays.asList(VertexLanguage.class.getDeclaredClasses()));
        Bench.due("some twelve classes", all.size() <= 12 ? 1 : all.size(), 1);
        for (Class<?> c : all) {
            Bench.due(c.getName() + " is static", Modifier.isStatic(c.getModifiers()) ? 1 : 0, 1);
            Bench.due(c.getName() + " is not public", Modifier.isPublic(c.getModifiers()) ? 1 : 0, 0);
        }
        all.add(VertexLanguage.class);
        for (Class<?> c : all) {
            long own = Arrays.stream(c.getDeclaredFields()).filter(f -> !Modifier.isStatic(f.getModifiers())).count();
            Bench.due("some twenty fields in " + c.getName(), own <= 20 ? 1 : own, 1);
            for (Field f : c.getDeclaredFields()) {
                boolean loose = Modifier.isStatic(f.getModifiers()) && !Modifier.isFinal(f.getModifiers());
                Bench.due(f + " is final", loose ? 1 : 0, 0);
            }
            for (Method m : c.getDeclaredMethods()) {
                boolean clash = Modifier.isPrivate(m.getModifiers()) && FACE.contains(m.getName());
                Bench.due(m + " has a name of its own", clash ? 1 : 0, 0);
                Bench.due(m + " takes seven at most", m.getParameterCount() <= 7 ? 1 : 0, 1);
            }
            for (Constructor<?> k : c.getDeclaredConstructors()) {
                Bench.due(k + " takes seven at most", k.getParameterCount() <= 7 ? 1 : 0, 1);
            }
        }
    }

    private static void forbidden(String code) {
        for (String word : List.of("throw", "throws", "try", "catch", "finally", "synchronized", "assert", "var", "yield",
            "Object", "Exception", "Error", "equals", "hashCode", "toString", "volatile", "native", "instanceof",
            "float", "double", "transient")) {
            Bench.due(word + " stands in the source", Pattern.compile("\\b" + word + "\\b").matcher(code).find() ? 1 : 0, 0);
        }
        for (String sign : List.of("->", "::", "@", "static {")) {
            Bench.due(sign + " stands in the source", code.contains(sign) ? 1 : 0, 0);
        }
        Bench.due("one file without a package", code.contains("package ") ? 1 : 0, 0);
        Bench.due("signs 1 to 127 alone", code.chars().allMatch(c -> c > 0 && c < 128) ? 1 : 0, 1);
    }

    private static void library(String code) {
        Matcher imports = Pattern.compile("import ([^;]*);").matcher(code);
        while (imports.find()) {
            Bench.due("import " + imports.group(1), List.of("java.util.Arrays", "java.util.ArrayList", "java.util.List")
                .contains(imports.group(1)) ? 1 : 0, 1);
        }
        Set<String> used = new TreeSet<>();
        Matcher calls = Pattern.compile("\\b(Math|Arrays|System|Integer|Long|SIGNS|PAIRS|WORDS)\\.(\\w+)").matcher(code);
        while (calls.find()) {
            used.add(calls.group(1) + "." + calls.group(2));
        }
        used.removeAll(Set.of("Math.min", "Math.max", "Arrays.fill", "System.arraycopy", "Integer.MAX_VALUE",
            "Integer.MIN_VALUE", "SIGNS.indexOf", "PAIRS.charAt", "PAIRS.length", "WORDS.charAt", "WORDS.length"));
        Bench.due("other things of the library", used.toString(), "[]");
    }

    private static void methodLengths(String code) {
        String[] lines = code.split("\n");
        int start = -1;
        String closing = "";
        for (int i = 0; i < lines.length; i++) {
            if (start < 0 && lines[i].matches(" {4,8}[\\w\\[\\] ]+\\([^;]*\\) \\{")) {
                start = i;
                closing = lines[i].replaceAll("\\S.*", "") + "}";
            } else if (start >= 0 && lines[i].equals(closing)) {
                Bench.due("lines of " + lines[start].trim(), i - start + 1 <= 60 ? 1 : i - start + 1, 1);
                start = -1;
            }
        }
    }
}
