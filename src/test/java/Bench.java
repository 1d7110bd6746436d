/** What the tests share: calls with the answers that are due, and texts put on the tape. */
final class Bench {
    private static int wrong = 0;
    private static final int MOST_SHOWN = 40;
    private static String sentence = "";

    private Bench() { }

    /** The words of the document that the following calls are about: told with each wrong answer. */
    static void sentence(String words) {
        sentence = "\"" + words + "\": ";
    }

    static void due(String call, long got, long want) {
        if (got != want) {
            due(call, Long.toString(got), Long.toString(want));
        }
    }

    static void due(String call, String got, String want) {
        if (!got.equals(want)) {
            wrong++;
            if (wrong <= MOST_SHOWN) {
                System.out.println(sentence + call + " answered [" + got + "], due is [" + want + "]");
            }
        }
    }

    static boolean allRight() {
        return wrong == 0;
    }

    static void finish() {
        if (wrong > 0) {
            System.out.println(wrong + " wrong answers");
            System.exit(1);
        }
    }

    /** The five numbers of the twenty bytes from i on; blanks behind the end of the text. */
    static int[] numbers(String text, int i) {
        int[] n = new int[5];
        for (int k = 0; k < 20; k++) {
            int c = i + k < text.length() ? text.charAt(i + k) : ' ';
            n[k / 4] = n[k / 4] << 8 | c & 255;
        }
        return n;
    }

    static void feed(VertexLanguage x, String text) {
        int i = 0;
        for (; i < text.length(); i += 20) {
            int[] n = numbers(text, i);
            x.feed(n[0], n[1], n[2], n[3], n[4]);
        }
        if (i > text.length()) {
            x.end(text.length() - (i - 20));
        }
    }

    static int read(VertexLanguage x, String text) {
        feed(x, text);
        return x.program();
    }

    static int named(VertexLanguage x, String text) {
        feed(x, text);
        return x.name();
    }

    static String printed(VertexLanguage x) {
        StringBuilder s = new StringBuilder();
        int size = x.print(-1);
        for (int i = 0; i < size; i++) {
            s.append((char) x.print(i));
        }
        return s.toString();
    }

    static String times(int n, String text) {
        return text.repeat(Math.max(0, n));
    }
}
