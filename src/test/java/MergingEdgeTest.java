/** Edges of MERGING and OUTCOMES: promise 7. */
public final class MergingEdgeTest {
    private static final String TEXT = "1\n2\n3\n4\n";
    private static final String CLASH = "<<<<<<< ours\nA\n=======\nB\n>>>>>>> theirs\n";

    private static void due(String what, String outcomes, String... rows) {
        Bench x = new Bench().files(rows);
        boolean refused = outcomes.equals(Bench.REFUSED);
        Bench.due(what + ": merge", x.merge(), refused ? outcomes : "" + (outcomes.split(" U ", -1).length - 1));
        Bench.due(what, x.all(), refused ? "" : outcomes);
        Bench.due(what + ": OUTCOMES", x.count(5), refused || outcomes.isEmpty() ? 0 : outcomes.split("; ").length);
    }

    private static void nothingIsThere() {
        Bench.sentence("Outcome, if a or b is there");
        due("no MAPS", "");
        due("base alone", "", "0", "p", "A", "0", "q", "B");
        due("base alone, empty and ROUGH", "", "0", "p", "", "0", "q", "\0");
        Bench x = new Bench().files("1", "p", "A");
        Bench.due("merge", x.merge(), 0);
        Bench.due("OUTCOMES", x.count(5), 1);
        x.drop(1, "p");
        Bench.due("merge of nothing", x.merge(), 0);
        Bench.due("its OUTCOMES", x.count(5), 0);
        Bench.due("its OUTCOMES", x.outcome(0, 0), Bench.NOT_THERE);
        Bench.due("its OUTCOMES", x.letter(0, 0, 0), Bench.NOT_THERE);
    }

    private static void withoutTheOther() {
        Bench.sentence("nothing, if p is there and a is p and ours has base's BLOB there; .. else ours at a, UNMERGED");
        for (int side = 1; side <= 2; side++) {
            String me = "" + side;
            due("base's BLOB", "", "0", "p", "A", me, "p", "A");
            due("base's empty BLOB", "", "0", "p", "", me, "p", "");
            due("base's ROUGH BLOB", "", "0", "p", "\0", me, "p", "\0");
            String stages = side == 1 ? "0 1 -1" : "0 -1 1";
            due("another BLOB", "p U " + stages + " blob 1 [B]", "0", "p", "A", me, "p", "B");
            due("an empty BLOB", "p U " + stages + " blob 1 []", "0", "p", "A", me, "p", "");
            due("base's empty, another", "p U " + stages + " blob 1 [A]", "0", "p", "", me, "p", "A");
            due("a ROUGH BLOB", "p U " + stages + " blob 1 [\0]", "0", "p", "A", me, "p", "\0");
            due("of SCORE 1000", "p U " + stages + " blob 1 [2\n1\n]", "0", "p", "1\n2\n", me, "p", "2\n1\n");
            due("RENAMED, base's BLOB", "q U " + (side == 1 ? "0 0 -1" : "0 -1 0") + " blob 0 [A]", "0", "p", "A",
                    me, "q", "A");
            due("RENAMED, another BLOB", "q U " + stages + " blob 1 [1\n3\n]", "0", "p", "1\n2\n", me, "q", "1\n3\n");
            due("not RENAMED", "q - -1 -1 -1 blob 1 [3\n4\n]", "0", "p", "1\n2\n", me, "q", "3\n4\n");
            due("not RENAMED, as it's empty", "q - -1 -1 -1 blob 0 []", "0", "p", "", me, "q", "");
        }
    }

    private static void withoutBase() {
        Bench.sentence("a with ours, if p isn't there");
        for (int side = 1; side <= 2; side++) {
            String me = "" + side;
            due("a TEXT", "q - -1 -1 -1 blob 0 [A]", me, "q", "A");
            due("an empty TEXT", "q - -1 -1 -1 blob 0 []", me, "q", "");
            due("a ROUGH TEXT", "q - -1 -1 -1 blob 0 [\0]", me, "q", "\0");
            due("two of them", "p - -1 -1 -1 blob 0 [A]; q - -1 -1 -1 blob 0 [A]", me, "q", "A", me, "p", "A");
        }
    }

    private static void whereItIs() {
        Bench.sentence("With both: at a, if a is b; at b, if a is p; at a, if b is p; else at a, UNMERGED");
        due("a and b are p", "p - -1 -1 -1 blob 0 [A]", "0", "p", "A", "1", "p", "A", "2", "p", "A");
        due("a is b", "q - -1 -1 -1 blob 0 [A]", "0", "p", "A", "1", "q", "A", "2", "q", "A");
        due("a is p", "q - -1 -1 -1 blob 0 [A]", "0", "p", "A", "1", "p", "A", "2", "q", "A");
        due("b is p", "q - -1 -1 -1 blob 0 [A]", "0", "p", "A", "1", "q", "A", "2", "p", "A");
        due("neither", "q U 0 0 0 blob 0 [A]", "0", "p", "A", "1", "q", "A", "2", "r", "A");
        due("neither, a behind b", "r U 0 0 0 blob 0 [A]", "0", "p", "A", "1", "r", "A", "2", "q", "A");
        due("no p", "q - -1 -1 -1 blob 0 [A]", "1", "q", "A", "2", "q", "A");
        due("neither, ours changed", "q U 0 1 0 blob 1 [1\n3\n]", "0", "p", "1\n2\n", "1", "q", "1\n3\n",
                "2", "r", "1\n2\n");
        due("neither, theirs changed", "q U 0 0 1 blob 1 [1\n3\n]", "0", "p", "1\n2\n", "1", "q", "1\n2\n",
                "2", "r", "1\n3\n");
        due("neither, both changed alike", "q U 0 1 1 blob 1 [1\n3\n]", "0", "p", "1\n2\n", "1", "q", "1\n3\n",
                "2", "r", "1\n3\n");
        due("neither, both changed apart", "q U 0 1 2 blob -1 [0\n" + TEXT + "5\n]", "0", "p", TEXT,
                "1", "q", "0\n" + TEXT, "2", "r", TEXT + "5\n");
    }

    private static void whichBlob() {
        Bench.sentence("the BLOB ours', if theirs is the same, or theirs is base's; theirs', if ours is base's");
        String[] texts = {"A\n", "", "\0"};
        for (String base : texts) {
            for (String new1 : new String[] {"B\n", "", "\0", "\0\0", "A\n"}) {
                if (!new1.equals(base)) {
                    String want = "p - -1 -1 -1 blob 1 [" + new1 + "]";
                    due("both the same", want, "0", "p", base, "1", "p", new1, "2", "p", new1);
                    due("theirs is base's", want, "0", "p", base, "1", "p", new1, "2", "p", base);
                    due("ours is base's", want, "0", "p", base, "1", "p", base, "2", "p", new1);
                }
            }
            due("all the same", "p - -1 -1 -1 blob 0 [" + base + "]", "0", "p", base, "1", "p", base, "2", "p", base);
        }
    }

    private static void theEmptyTextForBase() {
        Bench.sentence("else the MERGED TEXT of those of p (empty without), a, b, with a CONFLICT UNMERGED");
        due("without p", "p U -1 0 1 blob -1 [" + CLASH + "]", "1", "p", "A\n", "2", "p", "B\n");
        due("base's is empty", "p U 0 1 2 blob -1 [" + CLASH + "]", "0", "p", "", "1", "p", "A\n", "2", "p", "B\n");
        due("without p, LINES in common", "p U -1 0 1 blob -1 [<<<<<<< ours\n1\nA\n=======\n1\nB\n>>>>>>> theirs\n]",
                "1", "p", "1\nA\n", "2", "p", "1\nB\n");
        due("without p, ours empty", "p - -1 -1 -1 blob 1 [B\n]", "1", "p", "", "2", "p", "B\n");
        due("without p, theirs empty", "p - -1 -1 -1 blob 0 [A\n]", "1", "p", "A\n", "2", "p", "");
        due("without p, ours ROUGH", "p U -1 0 1 blob -1 [\0]", "1", "p", "\0", "2", "p", "B\n");
        due("without p, theirs ROUGH", "p U -1 0 1 blob -1 [A\n]", "1", "p", "A\n", "2", "p", "\0");
        due("without p, both ROUGH and the same", "p - -1 -1 -1 blob 0 [\0]", "1", "p", "\0", "2", "p", "\0");
    }

    private static void twoAtOnePath() {
        Bench.sentence("Two outcomes at one PATH ..: REFUSED");
        due("ours RENAMED to theirs' new PATH", Bench.REFUSED,
                "0", "p", "A", "1", "q", "A", "2", "p", "A", "2", "q", "B");
        due("theirs RENAMED to ours' new PATH", Bench.REFUSED,
                "0", "p", "A", "1", "p", "A", "1", "q", "B", "2", "q", "A");
        due("though it's the same BLOB", Bench.REFUSED,
                "0", "p", "A", "1", "q", "A", "2", "p", "A", "2", "q", "A");
        due("RENAMED to one PATH from two", Bench.REFUSED,
                "0", "p", "A", "0", "r", "B", "1", "q", "A", "1", "r", "B", "2", "p", "A", "2", "q", "B");
        due("RENAMED to one PATH from two, the others gone", Bench.REFUSED,
                "0", "p", "A", "0", "r", "B", "1", "q", "A", "2", "q", "B");
        due("ours RENAMED, theirs dropped it and has a new one there", Bench.REFUSED,
                "0", "p", "A", "1", "q", "A", "2", "q", "B");
        due("one PATH from one", "q - -1 -1 -1 blob 0 [A]", "0", "p", "A", "1", "q", "A", "2", "q", "A");
        due("RENAMED to two, the other one is theirs'", "q - -1 -1 -1 blob 1 [B]; r U 0 0 0 blob 0 [A]",
                "0", "p", "A", "1", "r", "A", "1", "q", "B", "2", "q", "A");
        due("a PATH that both have of old", "q - -1 -1 -1 blob 1 [B]",
                "0", "p", "A", "0", "q", "B", "1", "p", "A", "1", "q", "B", "2", "q", "B");
    }

    private static void pathsThatDoNotFit() {
        Bench.sentence("or PATHS that don't FIT: REFUSED");
        due("theirs BENEATH ours", Bench.REFUSED, "1", "p", "A", "2", "p/q", "B");
        due("ours BENEATH theirs", Bench.REFUSED, "1", "p/q", "A", "2", "p", "B");
        due("far BENEATH, with others between", Bench.REFUSED, "1", "p", "A", "1", "p!", "A", "2", "p/q/r", "B",
                "2", "p-", "A");
        due("beside", "p - -1 -1 -1 blob 0 [A]; p!q - -1 -1 -1 blob 1 [B]", "1", "p", "A", "2", "p!q", "B");
        due("BENEATH what goes", "p/q - -1 -1 -1 blob 1 [B]", "0", "p", "A", "1", "p", "A", "2", "p/q", "B");
        due("BENEATH what was changed", Bench.REFUSED, "0", "p", "A", "1", "p", "C", "2", "p/q", "B");
        due("RENAMED BENEATH itself", "p/q - -1 -1 -1 blob 0 [A]", "0", "p", "A", "1", "p", "A", "2", "p/q", "A");
        due("RENAMED BENEATH another", Bench.REFUSED, "0", "p", "A", "1", "p", "A", "1", "r", "B", "2", "r/p", "A");
        due("above what is RENAMED away", "p - -1 -1 -1 blob 1 [B]; q - -1 -1 -1 blob 0 [A]",
                "0", "p/q", "A", "1", "q", "A", "1", "p", "B", "2", "p/q", "A");
        due("BENEATH a PATH of base alone", "p/q - -1 -1 -1 blob 1 [B]", "0", "p", "A", "1", "p/q", "B",
                "2", "p/q", "B");
    }

    private static void refusedAtFirst() {
        Bench.sentence("OUTCOMES: those of the latest MERGING that wasn't REFUSED, ..; none at first");
        Bench x = new Bench().files("1", "p", "A", "1", "a", "A\n", "2", "a", "B\n", "2", "p/q", "B");
        Bench.due("merge", x.merge(), Bench.REFUSED);
        Bench.due("OUTCOMES", x.count(5), 0);
        Bench.due("OUTCOMES", x.outcome(0, 0), Bench.NOT_THERE);
        Bench.due("merge again", x.merge(), Bench.REFUSED);
        Bench.due("OUTCOMES", x.count(5), 0);
        Bench.due("nothing is changed", x.state(), "maps [] [1 0] [2 3], 4 blobs of 6, input 0, outcomes ");
        x.drop(1, "p");
        Bench.due("merge", x.merge(), 1);
        Bench.due("OUTCOMES", x.all(), "a U -1 1 2 blob -1 [" + CLASH + "]; p/q - -1 -1 -1 blob 3 [B]");
    }

    private static void refusedLater() {
        Bench.sentence("OUTCOMES: those of the latest MERGING that wasn't REFUSED");
        Bench x = new Bench().files("1", "a", "A\n", "2", "a", "B\n");
        String first = "a U -1 0 1 blob -1 [" + CLASH + "]";
        Bench.due("merge", x.merge(), 1);
        Bench.due("OUTCOMES", x.all(), first);
        x.files("1", "a", "C\n", "1", "z", "A\n", "2", "z/y", "B\n");
        for (int k = 0; k < 3; k++) {
            Bench.due("merge", x.merge(), Bench.REFUSED);
            Bench.due("OUTCOMES stay", x.all(), first);
        }
        x.arg("");
        Bench.due("merge with an ARGUMENT", x.merge(), Bench.BAD);
        Bench.due("OUTCOMES stay", x.all(), first);
        x.drop(2, "z/y");
        Bench.due("merge", x.merge(), 1);
        Bench.due("new OUTCOMES", x.whole(0), "a U -1 2 1 blob -1 [" + CLASH.replace('A', 'C') + "]");
        Bench.due("new OUTCOMES", x.whole(1), "z - -1 -1 -1 blob 0 [A\n]");
    }

    private static void asTheyWereThen() {
        Bench.sentence("in order of PATHS, as they were then");
        Bench x = new Bench().files("0", "p", TEXT, "1", "p", "0\n" + TEXT, "2", "p", TEXT + "5\n", "1", "b", "A",
                "2", "c", "B", "0", "c", "C");
        Bench.due("merge", x.merge(), 1);
        String then = "b - -1 -1 -1 blob 3 [A]; c U 5 -1 4 blob 4 [B]; p - -1 -1 -1 blob -1 [0\n" + TEXT + "5\n]";
        Bench.due("OUTCOMES", x.all(), then);
        Bench.due("put of a MERGED TEXT", x.put(1, "b", "0\n" + TEXT + "5\n"), 6);
        x.drop(2, "c");
        x.drop(0, "p");
        x.files("2", "a", "new");
        Bench.due("OUTCOMES stay", x.all(), then);
        x.copy(2, 1);
        x.copy(1, 0);
        Bench.due("OUTCOMES stay", x.all(), then);
        Bench.due("merge", x.merge(), 0);
        Bench.due("new ones", x.count(5), 2);
    }

    private static void noBlobsAreMade() {
        Bench.sentence("MERGING makes no BLOBS");
        Bench x = new Bench().files("0", "p", TEXT, "1", "p", "0\n" + TEXT, "2", "p", TEXT + "5\n", "1", "q", "A\n",
                "2", "q", "B\n");
        String before = x.state();
        Bench.due("merge", x.merge(), 1);
        Bench.due("BLOBS", x.count(3), 5);
        Bench.due("their BYTES", x.count(4), 8 + 10 + 10 + 2 + 2);
        Bench.due("MAPS and BLOBS", x.state().replaceAll("(?s)outcomes .*", "outcomes "), before);
        Bench.due("its TEXT is a new BLOB", x.put(0, "p", "0\n" + TEXT + "5\n"), 5);
    }

    private static void severalMergedTexts() {
        Bench.sentence("MERGED TEXTS .. together");
        String clean = "0\n" + TEXT + "5\n";
        Bench x = new Bench().files("0", "c", TEXT, "1", "c", "0\n" + TEXT, "2", "c", TEXT + "5\n", "1", "b", "A\n",
                "2", "b", "B\n", "0", "d", TEXT, "1", "d", "\0", "2", "d", "A\n", "1", "a", "C\n", "2", "a", "");
        String want = "a - -1 -1 -1 blob 6 [C\n]; b U -1 3 4 blob -1 [" + CLASH + "]; c - -1 -1 -1 blob -1 [" + clean
                + "]; d U 0 5 3 blob -1 [\0]";
        for (int k = 0; k < 3; k++) {
            Bench.due("merge", x.merge(), 2);
            Bench.due("OUTCOMES", x.all(), want);
        }
    }

    /** Forty times a LINE of its own and an empty one. */
    private static String rising(char from) {
        StringBuilder s = new StringBuilder();
        for (int k = 0; k < 40; k++) {
            s.append((char) (from + k)).append("\n\n");
        }
        return s.toString();
    }

    /** The same LINES, but for the empty ones in another order: so the empty ones alone are in pairs. */
    private static String falling(char from) {
        StringBuilder s = new StringBuilder();
        for (int k = 39; k >= 0; k--) {
            s.append((char) (from + k)).append("\n\n");
        }
        return s.toString();
    }

    // Each PATH of base is RENAMED to two PATHS that are neighbours, so that each TEXT put is merged twice. Of
    // 65536 BYTES that's nearly all that 512 calls can reach, so this side of it alone.
    private static void asLongMergedTextsAsCanBe() {
        Bench.sentence("REFUSED. So, too, if MERGED TEXTS .. are longer than 65536 BYTES together");
        String plain = "\n".repeat(40);
        String base = rising('A') + rising('\u0081') + plain;
        String even = falling('\u0081') + plain + falling('A');
        String odd = plain + falling('A') + falling('\u0081');
        Model m = new Model();
        Bench x = new Bench();
        for (int k = 0; k < 13; k++) {
            putBoth(x, m, 0, "p" + (char) ('a' + k), base);
            putBoth(x, m, 1, "q" + (char) ('a' + k), k % 2 == 0 ? even : odd);
        }
        Bench.due("copy", x.copy(1, 2), m.copy(1, 2));
        putBoth(x, m, 1, "q", odd);
        Bench.due("merge", x.merge(), m.merge());
        Bench.due("merge again", x.merge(), 13);
        Bench.due("and again", x.merge(), 13);
        Bench.due("OUTCOMES", x.count(5), 14);
        int together = m.outcomes.values().stream().filter(o -> o.unmerged).mapToInt(o -> o.text.length()).sum();
        Bench.due("MERGED TEXTS together", together, 13 * 4614);
        int i = 0;
        for (Model.Out o : m.outcomes.values()) {
            Bench.due("length of " + i, x.outcome(i, 2), o.text.length());
            i++;
        }
    }

    private static void putBoth(Bench x, Model m, int map, String path, String text) {
        m.arg(path);
        m.arg(text);
        Bench.due("put at " + path, x.put(map, path, text), m.put(map));
    }

    public static void main(String[] args) {
        nothingIsThere();
        withoutTheOther();
        withoutBase();
        whereItIs();
        whichBlob();
        theEmptyTextForBase();
        twoAtOnePath();
        pathsThatDoNotFit();
        refusedAtFirst();
        refusedLater();
        asTheyWereThen();
        noBlobsAreMade();
        severalMergedTexts();
        asLongMergedTextsAsCanBe();
        Bench.finishWithinMostCalls();
    }
}
