import java.util.ArrayList;
import java.util.List;
import java.util.Random;

/** Random runs, the same ones every time, held to the Model: promises 4 to 12 in all their mixtures. */
public final class ModelTest {
    private static final String[] PATHS = {"a", "b", "c", "a/b", "a!", "a/b/c", "d", "d/e", "z", "Z9", "a.b", "..."};
    private static final String[] WRONG = {"", "/", ".", "..", "a/", "/a", "a//b", "a b", "a/../b", "\u007f", "\u00e9"};

    private final Random random;
    private final Bench x = new Bench();
    private final Model m = new Model();
    private final String run;
    private final List<String> texts = new ArrayList<>();

    private ModelTest(int seed) {
        random = new Random(seed);
        run = "random run " + seed + ": ";
    }

    private String line() {
        return "" + (char) ('p' + random.nextInt(5)) + "\n";
    }

    private String freshText() {
        StringBuilder s = new StringBuilder();
        int n = random.nextInt(9);
        for (int i = 0; i < n; i++) {
            s.append(line());
        }
        if (random.nextInt(4) == 0) {
            s.append("end");
        }
        int special = random.nextInt(60);
        if (special == 0) {
            s.append('\0');
        } else if (special == 1) {
            s.append("\n".repeat(195 + random.nextInt(10)));
        } else if (special == 2) {
            s.append("\u00ff\u0080\n");
        }
        return s.toString();
    }

    private String edited(String old) {
        List<String> l = new ArrayList<>(Model.lines(old));
        int edits = 1 + random.nextInt(3);
        for (int e = 0; e < edits; e++) {
            int at = l.isEmpty() ? 0 : random.nextInt(l.size());
            if (l.isEmpty() || random.nextInt(3) == 0) {
                l.add(at, line());
            } else if (random.nextBoolean()) {
                l.set(at, line());
            } else {
                l.remove(at);
            }
        }
        return String.join("", l);
    }

    private String text() {
        int kind = random.nextInt(4);
        String t = texts.isEmpty() || kind == 0 ? freshText() : texts.get(random.nextInt(texts.size()));
        if (kind >= 2) {
            t = edited(t);
        }
        texts.add(t);
        return t;
    }

    private void arg(String text) {
        x.arg(text);
        m.arg(text);
    }

    private String path() {
        return PATHS[random.nextInt(PATHS.length)];
    }

    private void put() {
        int map = random.nextInt(3);
        arg(path());
        arg(text());
        Bench.due(run + "put", x.put(map), m.put(map));
    }

    private void rename() {
        int map = 1 + random.nextInt(2);
        List<String> have = new ArrayList<>(m.maps.get(map).keySet());
        if (have.isEmpty()) {
            return;
        }
        String old = have.get(random.nextInt(have.size()));
        String text = m.blobs.get(m.maps.get(map).get(old));
        arg(old);
        Bench.due(run + "drop", x.drop(map), m.drop(map));
        arg(path());
        arg(random.nextBoolean() ? text : edited(text));
        Bench.due(run + "put", x.put(map), m.put(map));
    }

    private void drop() {
        int map = random.nextInt(3);
        arg(path());
        Bench.due(run + "drop", x.drop(map), m.drop(map));
    }

    private void copy() {
        int from = random.nextInt(3);
        int to = random.nextInt(3);
        Bench.due(run + "copy", x.copy(from, to), m.copy(from, to));
    }

    private void blunder() {
        int n = random.nextInt(6);
        for (int i = 0; i < n; i++) {
            arg(random.nextBoolean() ? path() : WRONG[random.nextInt(WRONG.length)]);
        }
        Bench.due(run + "count(7)", x.count(7), m.arguments.size());
        int map = random.nextInt(5) - 1;
        int to = random.nextInt(5) - 1;
        switch (random.nextInt(4)) {
            case 0:
                Bench.due(run + "wild put", x.put(map), m.put(map));
                break;
            case 1:
                Bench.due(run + "wild drop", x.drop(map), m.drop(map));
                break;
            case 2:
                Bench.due(run + "wild copy", x.copy(map, to), m.copy(map, to));
                break;
            default:
                Bench.due(run + "wild merge", x.merge(), m.merge());
                break;
        }
        Bench.due(run + "count(7) behind", x.count(7), 0);
    }

    private void lookAround() {
        for (int map = 0; map < 3; map++) {
            Bench.due(run + "count", x.count(map), m.maps.get(map).size());
            int i = 0;
            for (int number : m.maps.get(map).values()) {
                Bench.due(run + "blob", x.blob(map, i++), number);
            }
            Bench.due(run + "blob", x.blob(map, i), Bench.NOT_THERE);
            for (int to = 0; to < 3; to++) {
                if (to != map) {
                    Bench.due(run + "renamed " + map + " " + to, x.renames(map, to), m.renamesText(map, to));
                }
            }
        }
        Bench.due(run + "count(3)", x.count(3), m.blobs.size());
        Bench.due(run + "count(4)", x.count(4), m.blobBytes());
        Bench.due(run + "count(5)", x.count(5), m.outcomes.size());
        Bench.due(run + "outcomes", x.all(), m.all());
    }

    private void start() {
        int files = random.nextInt(5);
        for (int i = 0; i < files; i++) {
            arg(path());
            arg(text());
            Bench.due(run + "put", x.put(0), m.put(0));
        }
        Bench.due(run + "copy", x.copy(0, 1), m.copy(0, 1));
        Bench.due(run + "copy", x.copy(0, 2), m.copy(0, 2));
    }

    private void go(int steps) {
        start();
        for (int step = 0; step < steps; step++) {
            int kind = random.nextInt(20);
            if (kind < 7) {
                put();
            } else if (kind < 12) {
                rename();
            } else if (kind < 14) {
                drop();
            } else if (kind == 14) {
                copy();
            } else if (kind == 15) {
                blunder();
            } else {
                Bench.due(run + "merge", x.merge(), m.merge());
                lookAround();
            }
        }
        lookAround();
    }

    public static void main(String[] args) {
        int runs = args.length > 0 ? Integer.parseInt(args[0]) : 1500;
        for (int seed = 0; seed < runs && Bench.wrong() < 20; seed++) {
            new ModelTest(seed).go(30);
        }
        Bench.finish();
    }
}
