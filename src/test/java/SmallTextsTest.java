import java.util.ArrayList;
import java.util.List;

/** All MERGED TEXTS of three short TEXTS, and all SCORES of two, held to the Model: promises 7 and 8. */
public final class SmallTextsTest {
    private static List<String> texts(String[] lines, int most) {
        List<String> all = new ArrayList<>();
        all.add("");
        int from = 0;
        for (int n = 1; n <= most; n++) {
            int to = all.size();
            for (int k = from; k < to; k++) {
                for (String line : lines) {
                    all.add(all.get(k) + line);
                }
            }
            from = to;
        }
        return all;
    }

    private static void merge(Bench x, String base, String ours, String theirs) {
        x.files("0", "p", base, "1", "p", ours, "2", "p", theirs);
        Model.Merged m = Model.merged(base, ours, theirs);
        String what = "[" + base + "|" + ours + "|" + theirs + "]";
        Bench.due(what + " merge", x.merge(), m.conflict ? 1 : 0);
        Bench.due(what, x.textOf(0), m.text);
    }

    private static void mergeAll(List<String> texts) {
        for (String base : texts) {
            for (String ours : texts) {
                Bench x = new Bench();
                for (String theirs : texts) {
                    if (x.calls() > 350) {
                        x = new Bench();
                    }
                    if (!ours.equals(base) && !theirs.equals(base) && !ours.equals(theirs)) {
                        merge(x, base, ours, theirs);
                    }
                }
            }
        }
    }

    private static void scoreAll(List<String> texts) {
        for (String first : texts) {
            Bench x = new Bench().files("0", "p", first);
            for (String second : texts) {
                if (x.calls() > 480) {
                    x = new Bench().files("0", "p", first);
                }
                x.files("1", "q", second);
                int score = first.isEmpty() || second.isEmpty() ? 0 : Model.score(first, second, false);
                Bench.due("SCORE of [" + first + "] and [" + second + "]", x.renamed(0, 1, 0, 2),
                        score < 500 ? Bench.NOT_THERE : score);
            }
        }
    }

    public static void main(String[] args) {
        mergeAll(texts(new String[] {"a\n", "b\n"}, 3));
        List<String> unended = new ArrayList<>();
        for (String text : texts(new String[] {"a\n", "\n"}, 1)) {
            unended.add(text);
            unended.add(text + "a");
            unended.add(text + "b\n");
            unended.add(text + "b");
        }
        mergeAll(unended);
        scoreAll(texts(new String[] {"a\n", "b\n", "bbb\n"}, 3));
        scoreAll(texts(new String[] {"a", "\n"}, 5));
        Bench.finishWithinMostCalls();
    }
}
