import java.util.ArrayList;
import java.util.List;
import java.util.Random;

/** Random TEXTS of up to some 200 LINES, the same ones every time: their merging is held to the Model, promise 7. */
public final class LongTextsTest {
    private final Random random;
    private final String run;
    // Few letters make many LINES the same, so that there are many longest rows to choose among.
    private final int letters;

    private LongTextsTest(int seed) {
        random = new Random(seed);
        run = "long texts " + seed + ": ";
        letters = 1 + random.nextInt(7);
    }

    private String line() {
        String letter = "" + (char) ('a' + random.nextInt(letters));
        return letter.repeat(random.nextInt(3)) + "\n";
    }

    private String fresh(int most) {
        StringBuilder s = new StringBuilder();
        int lines = random.nextInt(most + 1);
        for (int i = 0; i < lines; i++) {
            s.append(line());
        }
        return s.append(random.nextInt(4) == 0 ? "a" : "").toString();
    }

    private void edit(List<String> lines) {
        int at = random.nextInt(lines.size() + 1);
        if (at == lines.size() || random.nextInt(3) == 0) {
            lines.add(at, line());
            return;
        }
        String gone = lines.remove(at);
        switch (random.nextInt(3)) {
            case 0:
                lines.add(at, line());
                break;
            case 1:
                lines.add(random.nextInt(lines.size() + 1), gone);
                break;
            default:
                break;
        }
    }

    private String edited(String old) {
        List<String> lines = new ArrayList<>(Model.lines(old));
        int edits = 1 + random.nextInt(6);
        for (int e = 0; e < edits; e++) {
            edit(lines);
        }
        return String.join("", lines);
    }

    private String otherThan(String base, int most) {
        return random.nextInt(8) == 0 ? fresh(most) : edited(base);
    }

    private void go() {
        int most = random.nextInt(4) == 0 ? 201 : random.nextInt(40);
        String base = fresh(most);
        String[] texts = {base, otherThan(base, most), otherThan(base, most)};
        Bench x = new Bench();
        Model m = new Model();
        for (int map = 0; map < 3; map++) {
            String path = map > 0 && random.nextInt(3) == 0 ? "q" : "p";
            m.arg(path);
            m.arg(texts[map]);
            Bench.due(run + "put", x.put(map, path, texts[map]), m.put(map));
        }
        Bench.due(run + "merge", x.merge(), m.merge());
        Bench.due(run + "renamed in ours", x.renames(0, 1), m.renamesText(0, 1));
        Bench.due(run + "renamed in theirs", x.renames(0, 2), m.renamesText(0, 2));
        Bench.due(run + "outcomes", x.all(), m.all());
    }

    public static void main(String[] args) {
        int runs = args.length > 0 ? Integer.parseInt(args[0]) : 2000;
        for (int seed = 0; seed < runs && Bench.wrong() < 20; seed++) {
            new LongTextsTest(seed).go();
        }
        Bench.finish();
    }
}
