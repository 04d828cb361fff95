/** Edges of what is looked at: promises 1 and 9 to 12. */
public final class LookEdgeTest {
    private static final int[] FAR = {Integer.MIN_VALUE, -256, -2, -1, 400, 65536, Integer.MAX_VALUE};

    private static void aNewObject() {
        Bench.sentence("MapMerger(): Empty");
        Bench x = new Bench();
        for (int what = 0; what <= 7; what++) {
            Bench.due("count " + what, x.count(what), 0);
        }
        for (int i = -1; i <= 1; i++) {
            for (int map = 0; map < 3; map++) {
                Bench.due("blob " + map + " " + i, x.blob(map, i), Bench.NOT_THERE);
                Bench.due("renamed " + map, x.renamed(map, (map + 1) % 3, i, 0), Bench.NOT_THERE);
                Bench.due("renamed " + map, x.renamed(map, (map + 2) % 3, i, 2), Bench.NOT_THERE);
            }
            for (int what = 0; what <= 6; what++) {
                Bench.due("outcome " + i + " " + what, x.outcome(i, what), Bench.NOT_THERE);
            }
            Bench.due("letter " + i, x.letter(i, 0, 0), Bench.NOT_THERE);
            Bench.due("letter " + i, x.letter(i, 1, 0), Bench.NOT_THERE);
        }
        Bench.due("drop", x.drop(0, "p"), Bench.NOT_THERE);
        Bench.due("put without ARGUMENTS", x.put(0), Bench.BAD);
        Bench.due("end(1)", x.end(1), Bench.BAD);
        Bench.due("copy", x.copy(0, 1), Bench.VOID);
        Bench.due("merge", x.merge(), 0);
        Bench.due("the first ARGUMENT", x.end(0), 1);
        Bench.due("the first BLOB", x.arg("A").drop(0), Bench.BAD);
        Bench.due("the first BLOB", x.put(2, "p", "A"), 0);
    }

    private static Bench merged() {
        Bench x = new Bench().files("1", "long/path", "", "2", "q", "\u00ff\0", "0", "r", "A", "2", "r", "BBB",
                "0", "s", "C", "1", "s", "D", "2", "s", "E");
        Bench.due("merge", x.merge(), 2);
        return x;
    }

    private static void whatOfAnOutcome() {
        Bench.sentence("Of OUTCOME i (from 0): ..");
        Bench x = merged();
        int[][] want = {{9, 0, 0, -1, -1, -1, 0}, {1, 0, 2, -1, -1, -1, 1}, {1, 1, 3, 2, -1, 3, 3},
            {1, 1, 40, 4, 5, 6, -1}};
        for (int i = 0; i < 4; i++) {
            for (int what = 0; what <= 6; what++) {
                Bench.due("outcome " + i + " " + what, x.outcome(i, what), want[i][what]);
            }
            Bench.due("what -1", x.outcome(i, -1), Bench.BAD);
            Bench.due("what 7", x.outcome(i, 7), Bench.BAD);
        }
        for (int what = 0; what <= 6; what++) {
            Bench.due("outcome 4 " + what, x.outcome(4, what), Bench.NOT_THERE);
            for (int i : FAR) {
                Bench.due("outcome " + i + " " + what, x.outcome(i, what), Bench.NOT_THERE);
            }
        }
        for (int what : FAR) {
            Bench.due("what " + what, x.outcome(0, what), Bench.BAD);
            Bench.due("what " + what + ", not there", x.outcome(4, what), Bench.BAD);
        }
    }

    private static void theBlobOfAnOutcome() {
        Bench.sentence("the BLOB that its TEXT is, -1 if it was MERGED and is UNMERGED, or no BLOB is it");
        String clean = "0\n1\n2\n3\n";
        String[] three = {"0", "p", "1\n2\n", "1", "p", "0\n1\n2\n", "2", "p", "1\n2\n3\n"};
        Bench x = new Bench().files(three);
        Bench.due("merge", x.merge(), 0);
        Bench.due("no BLOB is it", x.outcome(0, 6), -1);
        Bench.due("put of its TEXT", x.put(0, "q", clean), 3);
        Bench.due("no BLOB was it", x.outcome(0, 6), -1);
        Bench.due("drop", x.drop(0, "q"), Bench.VOID);
        Bench.due("merge", x.merge(), 0);
        Bench.due("a BLOB of no MAP is it", x.outcome(0, 6), 3);
        Bench.due("length", x.outcome(0, 2), 8);
        Bench.due("TEXT", x.textOf(0), clean);
        Bench y = new Bench().files("0", "z", clean, "1", "z", clean, "0", "p", "1\n2\n", "1", "q", "0\n1\n2\n",
                "2", "z", clean, "2", "r", "1\n2\n3\n");
        Bench.due("merge", y.merge(), 1);
        Bench.due("at two PATHS, so UNMERGED", y.whole(0), "q U 1 2 3 blob -1 [" + clean + "]");
        String clash = "<<<<<<< ours\nA\n=======\nB\n>>>>>>> theirs\n";
        Bench z = new Bench().files("0", "z", clash, "1", "p", "A\n", "2", "p", "B\n");
        Bench.due("merge", z.merge(), 1);
        Bench.due("a CONFLICT that a BLOB is", z.all(), "p U -1 1 2 blob -1 [" + clash + "]");
        Bench v = new Bench().files("0", "p", "\0", "1", "p", "A\n", "2", "p", "B\n");
        Bench.due("merge", v.merge(), 1);
        Bench.due("ours, as one is ROUGH", v.all(), "p U 0 1 2 blob -1 [A\n]");
        Bench w = new Bench().files("0", "p", "A", "1", "p", "B");
        Bench.due("merge", w.merge(), 1);
        Bench.due("UNMERGED, but not MERGED", w.all(), "p U 0 1 -1 blob 1 [B]");
    }

    private static void stages() {
        Bench.sentence("the BLOBS of STAGES 1 .. 3, -1 without, and if it isn't UNMERGED");
        String[][] rows = {
            {"-1-1-1", "0", "p", "A", "1", "p", "A", "2", "p", "B"},
            {"-1-1-1", "1", "p", "A"},
            {"01-1", "0", "p", "A", "1", "p", "B"},
            {"0-11", "0", "p", "A", "2", "p", "B"},
            {"00-1", "0", "p", "A", "1", "q", "A"},
            {"0-10", "0", "p", "A", "2", "q", "A"},
            {"000", "0", "p", "A", "1", "q", "A", "2", "r", "A"},
            {"012", "0", "p", "A", "1", "p", "B", "2", "p", "C"},
            {"-101", "1", "p", "A", "2", "p", "B"},
            {"210", "2", "p", "A", "1", "p", "B", "0", "p", "C"},
        };
        for (String[] row : rows) {
            Bench x = new Bench().files(java.util.Arrays.copyOfRange(row, 1, row.length));
            x.merge();
            Bench.due("STAGES", x.outcome(0, 3) + x.outcome(0, 4) + x.outcome(0, 5), row[0]);
            Bench.due("UNMERGED", x.outcome(0, 1), row[0].equals("-1-1-1") ? 0 : 1);
        }
    }

    private static void letters() {
        Bench.sentence("BYTE k (from 0) of the PATH (what 0) or TEXT (1) of OUTCOME i. Not there: not there");
        Bench x = merged();
        String[] paths = {"long/path", "q", "r", "s"};
        String[] texts = {"", "\u00ff\0", "BBB", "<<<<<<< ours\nD\n=======\nE\n>>>>>>> theirs\n"};
        for (int i = 0; i < 4; i++) {
            Bench.due("PATH " + i, x.pathOf(i), paths[i]);
            Bench.due("behind PATH " + i, x.letter(i, 0, paths[i].length()), Bench.NOT_THERE);
            Bench.due("before PATH " + i, x.letter(i, 0, -1), Bench.NOT_THERE);
            Bench.due("TEXT " + i, x.textOf(i), texts[i]);
            Bench.due("behind TEXT " + i, x.letter(i, 1, texts[i].length()), Bench.NOT_THERE);
            Bench.due("before TEXT " + i, x.letter(i, 1, -1), Bench.NOT_THERE);
            for (int k : FAR) {
                Bench.due("far PATH " + i, x.letter(i, 0, k), Bench.NOT_THERE);
                Bench.due("far TEXT " + i, x.letter(i, 1, k), Bench.NOT_THERE);
            }
        }
        for (int what = 0; what <= 1; what++) {
            Bench.due("OUTCOME 4", x.letter(4, what, 0), Bench.NOT_THERE);
            for (int i : FAR) {
                Bench.due("OUTCOME " + i, x.letter(i, what, 0), Bench.NOT_THERE);
            }
        }
        for (int what : new int[] {Integer.MIN_VALUE, -1, 2, 3, Integer.MAX_VALUE}) {
            Bench.due("what " + what, x.letter(0, what, 0), Bench.BAD);
            Bench.due("what " + what + ", not there", x.letter(4, what, 0), Bench.BAD);
            Bench.due("what " + what + ", below 0", x.letter(0, what, -1), Bench.BAD);
        }
    }

    private static void blobs() {
        Bench.sentence("The BLOB at the PATH number i (from 0, in order) of the MAP. Not there: not there");
        Bench x = new Bench().files("0", "b", "B", "0", "a", "A", "0", "c", "C", "2", "a", "C");
        Bench.due("MAP 0", x.map(0), "1 0 2");
        Bench.due("MAP 2", x.map(2), "2");
        int[] sizes = {3, 0, 1};
        for (int map = 0; map < 3; map++) {
            Bench.due("behind", x.blob(map, sizes[map]), Bench.NOT_THERE);
            for (int i : FAR) {
                Bench.due("far", x.blob(map, i), Bench.NOT_THERE);
            }
        }
        for (int map : new int[] {Integer.MIN_VALUE, -1, 3, Integer.MAX_VALUE}) {
            for (int i = -1; i <= 3; i++) {
                Bench.due("MAP " + map, x.blob(map, i), Bench.BAD);
            }
        }
    }

    private static void counts() {
        Bench.sentence("PATHS of MAPS 0 .. 2 (0 .. 2), BLOBS (3), their BYTES (4), OUTCOMES (5), .. else -1");
        Bench x = new Bench().files("0", "a", "12", "0", "b", "345", "0", "c", "12", "0", "d", "", "1", "x", "6",
                "1", "y", "7", "1", "z", "8", "2", "x", "6", "2", "v", "678901");
        x.merge();
        x.arg("1").arg("2").arg("3");
        x.type("x".repeat(21));
        int[] want = {4, 3, 2, 7, 14, 4, 40, 3};
        for (int what = 0; what < want.length; what++) {
            Bench.due("count " + what, x.count(what), want[what]);
        }
        for (int what : new int[] {Integer.MIN_VALUE, -2, -1, 8, 9, 255, Integer.MAX_VALUE}) {
            Bench.due("count " + what, x.count(what), -1);
        }
        x.end(19);
        Bench.due("INPUT", x.count(6), 0);
        Bench.due("ARGUMENTS", x.count(7), 4);
        x.merge();
        Bench.due("ARGUMENTS", x.count(7), 0);
    }

    private static void howManyAreUnmerged() {
        Bench.sentence("MERGING. Answers how many OUTCOMES are UNMERGED");
        Bench x = new Bench();
        for (int n = 0; n < 10; n++) {
            Bench.due("merge", x.merge(), n);
            Bench.due("OUTCOMES", x.count(5), 2 * n);
            x.files("1", "p" + n, "A", "2", "p" + n, "B", "2", "q" + n, "C");
        }
        Bench y = new Bench().files("0", "p", "1\n2\n", "1", "q", "1\nA\n", "2", "r", "1\nB\n");
        Bench.due("UNMERGED for two reasons", y.merge(), 1);
    }

    public static void main(String[] args) {
        aNewObject();
        whatOfAnOutcome();
        theBlobOfAnOutcome();
        stages();
        letters();
        blobs();
        counts();
        howManyAreUnmerged();
        Bench.finishWithinMostCalls();
    }
}
