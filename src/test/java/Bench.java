import java.nio.charset.StandardCharsets;
import java.util.NoSuchElementException;

/** A MapMerger under test, called with texts, and the list of what was not as due. */
final class Bench {
    static final String VOID = "done";
    static final String BAD = "throws.IllegalArgumentException";
    static final String REFUSED = "throws.IllegalStateException";
    static final String NOT_THERE = "throws.NoSuchElementException";

    /** What an object is promised to be used for. */
    static final int MOST_CALLS = 512;

    private static int wrong;
    private static int checked;
    private static int mostCalls;
    private static String sentence = "";

    private final MapMerger x = new MapMerger();
    private int calls;

    interface Call {
        int answer();
    }

    /** What a call answers, as a text; an exception of another class than the document's is a text, too. */
    static String say(Call call) {
        try {
            return String.valueOf(call.answer());
        } catch (RuntimeException e) {
            Class<?> c = e.getClass();
            boolean known = c == IllegalArgumentException.class || c == IllegalStateException.class
                    || c == NoSuchElementException.class;
            return "throws." + (known ? c.getSimpleName() : c.getName());
        }
    }

    static void due(String what, Object got, Object want) {
        checked++;
        if (!String.valueOf(want).equals(String.valueOf(got))) {
            wrong++;
            System.out.println(sentence + show(what) + " answered " + show(got) + ", due is " + show(want));
        }
    }

    /** The document's sentence that the next answers belong to; it's told with each that is wrong. */
    static void sentence(String words) {
        sentence = "\"" + words + "\" ";
    }

    private MapMerger use() {
        calls++;
        mostCalls = Math.max(mostCalls, calls);
        return x;
    }

    int calls() {
        return calls;
    }

    private static String show(Object o) {
        return String.valueOf(o).replace("\n", "\\n").replace("\0", "\\0");
    }

    static int wrong() {
        return wrong;
    }

    static void finish() {
        System.out.println(wrong == 0 ? "all " + checked + " answers are as due" : wrong + " answers are not as due");
        if (wrong != 0) {
            System.exit(1);
        }
    }

    /** As finish; no object may have been used for more calls than are promised. */
    static void finishWithinMostCalls() {
        sentence = "";
        due("calls of one object", mostCalls <= MOST_CALLS ? "as promised" : mostCalls, "as promised");
        finish();
    }

    static byte[] bytes(String text) {
        return text.getBytes(StandardCharsets.ISO_8859_1);
    }

    /** Adds a text's BYTES to INPUT, with some zeroes behind it; answers how many. */
    int type(String text) {
        byte[] b = bytes(text);
        int[] n = new int[5];
        int pad = (20 - b.length % 20) % 20;
        for (int at = 0; at < b.length; at += 20) {
            for (int w = 0; w < 5; w++) {
                n[w] = 0;
                for (int k = 0; k < 4; k++) {
                    int i = at + 4 * w + k;
                    n[w] = n[w] << 8 | (i < b.length ? b[i] & 255 : 0);
                }
            }
            use().feed(n[0], n[1], n[2], n[3], n[4]);
        }
        return pad;
    }

    Bench arg(String text) {
        int pad = type(text);
        use().end(pad);
        return this;
    }

    String end(int n) {
        return say(() -> use().end(n));
    }

    String feed(int a, int b, int c, int d, int e) {
        return say(() -> {
            use().feed(a, b, c, d, e);
            return 0;
        }).replaceAll("^0$", VOID);
    }

    String put(int map) {
        return say(() -> use().put(map));
    }

    String put(int map, String path, String text) {
        arg(path);
        arg(text);
        return put(map);
    }

    String drop(int map) {
        return say(() -> {
            use().drop(map);
            return 0;
        }).replaceAll("^0$", VOID);
    }

    String drop(int map, String path) {
        arg(path);
        return drop(map);
    }

    String copy(int from, int to) {
        return say(() -> {
            use().copy(from, to);
            return 0;
        }).replaceAll("^0$", VOID);
    }

    String merge() {
        return say(() -> use().merge());
    }

    String renamed(int a, int b, int i, int what) {
        return say(() -> use().renamed(a, b, i, what));
    }

    String outcome(int i, int what) {
        return say(() -> use().outcome(i, what));
    }

    String letter(int i, int what, int k) {
        return say(() -> use().letter(i, what, k));
    }

    String blob(int map, int i) {
        return say(() -> use().blob(map, i));
    }

    int count(int what) {
        return use().count(what);
    }

    /** Puts files: "0 path text", each a row of three. */
    Bench files(String... rows) {
        for (int k = 0; k + 2 < rows.length; k += 3) {
            int map = Integer.parseInt(rows[k]);
            String answer = put(map, rows[k + 1], rows[k + 2]);
            if (answer.startsWith("throws")) {
                due("put of " + rows[k + 1], answer, "a number");
            }
        }
        return this;
    }

    private String letters(int i, int what, int length) {
        StringBuilder s = new StringBuilder();
        for (int k = 0; k < length; k++) {
            s.append((char) use().letter(i, what, k));
        }
        return s.toString();
    }

    String pathOf(int i) {
        return letters(i, 0, use().outcome(i, 0));
    }

    String textOf(int i) {
        return letters(i, 1, use().outcome(i, 2));
    }

    /** An OUTCOME in one text: path, "U" if it's UNMERGED, the three STAGES, the BLOB and the TEXT. */
    String whole(int i) {
        return pathOf(i) + (use().outcome(i, 1) == 1 ? " U " : " - ") + use().outcome(i, 3) + " "
                + use().outcome(i, 4) + " " + use().outcome(i, 5) + " blob " + use().outcome(i, 6) + " [" + textOf(i) + "]";
    }

    /** All OUTCOMES. */
    String all() {
        StringBuilder s = new StringBuilder();
        for (int i = 0; i < use().count(5); i++) {
            s.append(i == 0 ? "" : "; ").append(whole(i));
        }
        return s.toString();
    }

    /** All RENAMES from a to b: "gone>come score". */
    String renames(int a, int b) {
        StringBuilder s = new StringBuilder();
        for (int i = 0; i < 400 && !renamed(a, b, i, 0).equals(NOT_THERE); i++) {
            s.append(i == 0 ? "" : ", ").append(renamed(a, b, i, 0)).append(">").append(renamed(a, b, i, 1))
                    .append(" ").append(renamed(a, b, i, 2));
        }
        return s.toString();
    }

    /** The BLOBS of a MAP in order of its PATHS. */
    String map(int map) {
        StringBuilder s = new StringBuilder();
        int paths = count(map);
        for (int i = 0; i < paths; i++) {
            s.append(i == 0 ? "" : " ").append(blob(map, i));
        }
        return s.toString();
    }

    /** All that can be seen but ARGUMENTS, RENAMES going by the MAPS. */
    String state() {
        return "maps [" + map(0) + "] [" + map(1) + "] [" + map(2) + "], " + count(3) + " blobs of " + count(4)
                + ", input " + count(6) + ", outcomes " + all();
    }
}
