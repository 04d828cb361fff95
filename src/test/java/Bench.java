import java.nio.charset.StandardCharsets;
import java.util.NoSuchElementException;

/** A MapMerger under test, called with texts, and the list of what was not as due. */
final class Bench {
    static final String VOID = "done";
    static final String BAD = "throws.IllegalArgumentException";
    static final String REFUSED = "throws.IllegalStateException";
    static final String NOT_THERE = "throws.NoSuchElementException";

    private static int wrong;
    private static int checked;

    MapMerger x = new MapMerger();

    interface Call {
        int answer();
    }

    /** What a call answers, as a text; an exception of another class than the document's is a text, too. */
    static String say(Call call) {
        try {
            return String.valueOf(call.answer());
        } catch (RuntimeException e) {
            Class<?> c = e.getClass();
            boolean known = c == IllegalArgumentException.class || c == IllegalStateException.class
                    || c == NoSuchElementException.class;
            return "throws." + (known ? c.getSimpleName() : c.getName());
        }
    }

    static void due(String what, Object got, Object want) {
        checked++;
        if (!String.valueOf(want).equals(String.valueOf(got))) {
            wrong++;
            System.out.println(what + " answered " + show(got) + ", due is " + show(want));
        }
    }

    private static String show(Object o) {
        return String.valueOf(o).replace("\n", "\\n").replace("\0", "\\0");
    }

    static int wrong() {
        return wrong;
    }

    static void finish() {
        System.out.println(wrong == 0 ? "all " + checked + " answers are as due" : wrong + " answers are not as due");
        if (wrong != 0) {
            System.exit(1);
        }
    }

    static byte[] bytes(String text) {
        return text.getBytes(StandardCharsets.ISO_8859_1);
    }

    /** Adds a text's BYTES to INPUT, with some zeroes behind it; answers how many. */
    int type(String text) {
        byte[] b = bytes(text);
        int[] n = new int[5];
        int pad = (20 - b.length % 20) % 20;
        for (int at = 0; at < b.length; at += 20) {
            for (int w = 0; w < 5; w++) {
                n[w] = 0;
                for (int k = 0; k < 4; k++) {
                    int i = at + 4 * w + k;
                    n[w] = n[w] << 8 | (i < b.length ? b[i] & 255 : 0);
                }
            }
            x.feed(n[0], n[1], n[2], n[3], n[4]);
        }
        return pad;
    }

    Bench arg(String text) {
        int pad = type(text);
        x.end(pad);
        return this;
    }

    String end(int n) {
        return say(() -> x.end(n));
    }

    String feed(int a, int b, int c, int d, int e) {
        return say(() -> {
            x.feed(a, b, c, d, e);
            return 0;
        }).replaceAll("^0$", VOID);
    }

    String put(int map) {
        return say(() -> x.put(map));
    }

    String put(int map, String path, String text) {
        arg(path);
        arg(text);
        return put(map);
    }

    String drop(int map) {
        return say(() -> {
            x.drop(map);
            return 0;
        }).replaceAll("^0$", VOID);
    }

    String drop(int map, String path) {
        arg(path);
        return drop(map);
    }

    String copy(int from, int to) {
        return say(() -> {
            x.copy(from, to);
            return 0;
        }).replaceAll("^0$", VOID);
    }

    String merge() {
        return say(() -> x.merge());
    }

    String renamed(int a, int b, int i, int what) {
        return say(() -> x.renamed(a, b, i, what));
    }

    String outcome(int i, int what) {
        return say(() -> x.outcome(i, what));
    }

    String letter(int i, int what, int k) {
        return say(() -> x.letter(i, what, k));
    }

    String blob(int map, int i) {
        return say(() -> x.blob(map, i));
    }

    int count(int what) {
        return x.count(what);
    }

    /** Puts files: "0 path text", each a row of three. */
    Bench files(String... rows) {
        for (int k = 0; k + 2 < rows.length; k += 3) {
            int map = Integer.parseInt(rows[k]);
            String answer = put(map, rows[k + 1], rows[k + 2]);
            if (answer.startsWith("throws")) {
                due("put of " + rows[k + 1], answer, "a number");
            }
        }
        return this;
    }

    private String letters(int i, int what, int length) {
        StringBuilder s = new StringBuilder();
        for (int k = 0; k < length; k++) {
            s.append((char) x.letter(i, what, k));
        }
        return s.toString();
    }

    String pathOf(int i) {
        return letters(i, 0, x.outcome(i, 0));
    }

    String textOf(int i) {
        return letters(i, 1, x.outcome(i, 2));
    }

    /** An OUTCOME in one text: path, "U" if it's UNMERGED, the three STAGES, the BLOB and the TEXT. */
    String whole(int i) {
        return pathOf(i) + (x.outcome(i, 1) == 1 ? " U " : " - ") + x.outcome(i, 3) + " " + x.outcome(i, 4) + " "
                + x.outcome(i, 5) + " blob " + x.outcome(i, 6) + " [" + textOf(i) + "]";
    }

    /** All OUTCOMES. */
    String all() {
        StringBuilder s = new StringBuilder();
        for (int i = 0; i < x.count(5); i++) {
            s.append(i == 0 ? "" : "; ").append(whole(i));
        }
        return s.toString();
    }

    /** All RENAMES from a to b: "gone>come score". */
    String renames(int a, int b) {
        StringBuilder s = new StringBuilder();
        for (int i = 0; i < 400 && !renamed(a, b, i, 0).equals(NOT_THERE); i++) {
            s.append(i == 0 ? "" : ", ").append(renamed(a, b, i, 0)).append(">").append(renamed(a, b, i, 1))
                    .append(" ").append(renamed(a, b, i, 2));
        }
        return s.toString();
    }
}
