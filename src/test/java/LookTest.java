/** Promises 9 to 12. */
public final class LookTest {
    private static Bench merged() {
        Bench x = new Bench().files("0", "k/l", "1\n2\n", "1", "k/l", "1\nx\n", "2", "k/l", "1\ny", "1", "b", "\u00ff\0",
                "0", "d", "D", "2", "d", "E");
        Bench.due("merge", x.merge(), 2);
        return x;
    }

    private static void outcomes() {
        Bench x = merged();
        int[][] want = {
            {1, 0, 2, -1, -1, -1, 3},
            {1, 1, 1, 4, -1, 5, 5},
            {3, 1, 2 + 36 + 2 + 2, 0, 1, 2, -1},
        };
        for (int i = 0; i < want.length; i++) {
            for (int what = 0; what <= 6; what++) {
                Bench.due("outcome " + i + " " + what, x.outcome(i, what), want[i][what]);
            }
        }
        for (int i : new int[] {-1, 3, 400, Integer.MAX_VALUE, Integer.MIN_VALUE}) {
            for (int what = 0; what <= 6; what++) {
                Bench.due("outcome " + i + " " + what, x.outcome(i, what), Bench.NOT_THERE);
            }
        }
        for (int what : new int[] {-1, 7, Integer.MAX_VALUE, Integer.MIN_VALUE}) {
            Bench.due("outcome 0 " + what, x.outcome(0, what), Bench.BAD);
            Bench.due("outcome 9 " + what, x.outcome(9, what), Bench.BAD);
        }
        x.arg("a");
        Bench.due("ARGUMENTS don't matter", x.outcome(0, 0), 1);
        Bench.due("ARGUMENTS stay", x.count(7), 1);
    }

    private static void letters() {
        Bench x = merged();
        Bench.due("PATH", x.letter(2, 0, 0) + " " + x.letter(2, 0, 1) + " " + x.letter(2, 0, 2), "107 47 108");
        Bench.due("behind the PATH", x.letter(2, 0, 3), Bench.NOT_THERE);
        Bench.due("before the PATH", x.letter(2, 0, -1), Bench.NOT_THERE);
        Bench.due("a high BYTE", x.letter(0, 1, 0), 255);
        Bench.due("a BYTE 0", x.letter(0, 1, 1), 0);
        Bench.due("behind the TEXT", x.letter(0, 1, 2), Bench.NOT_THERE);
        Bench.due("before the TEXT", x.letter(0, 1, -1), Bench.NOT_THERE);
        String text = "1\n<<<<<<< ours\nx\n=======\ny\n>>>>>>> theirs\n";
        Bench.due("the MERGED TEXT", x.textOf(2), text);
        Bench.due("behind it", x.letter(2, 1, text.length()), Bench.NOT_THERE);
        Bench.due("far behind it", x.letter(2, 1, Integer.MAX_VALUE), Bench.NOT_THERE);
        Bench.due("far before it", x.letter(2, 1, Integer.MIN_VALUE), Bench.NOT_THERE);
        for (int i : new int[] {-1, 3, Integer.MAX_VALUE, Integer.MIN_VALUE}) {
            Bench.due("letter of OUTCOME " + i, x.letter(i, 0, 0), Bench.NOT_THERE);
        }
        for (int what : new int[] {-1, 2, Integer.MAX_VALUE}) {
            Bench.due("letter, what " + what, x.letter(0, what, 0), Bench.BAD);
            Bench.due("letter, what " + what, x.letter(9, what, -1), Bench.BAD);
        }
        Bench y = new Bench().files("1", "p", "");
        y.merge();
        Bench.due("of an empty TEXT", y.letter(0, 1, 0), Bench.NOT_THERE);
    }

    private static void blobs() {
        Bench x = new Bench().files("0", "b", "2", "0", "a/z", "1", "0", "a!", "3", "2", "c", "1", "0", "ab", "2");
        Bench.due("in order", x.blob(0, 0) + x.blob(0, 1) + x.blob(0, 2) + x.blob(0, 3), "2100");
        Bench.due("behind", x.blob(0, 4), Bench.NOT_THERE);
        Bench.due("before", x.blob(0, -1), Bench.NOT_THERE);
        Bench.due("far", x.blob(0, Integer.MAX_VALUE), Bench.NOT_THERE);
        Bench.due("an empty MAP", x.blob(1, 0), Bench.NOT_THERE);
        Bench.due("another MAP", x.blob(2, 0), 1);
        for (int map : new int[] {-1, 3, Integer.MAX_VALUE, Integer.MIN_VALUE}) {
            Bench.due("MAP " + map, x.blob(map, 0), Bench.BAD);
            Bench.due("MAP " + map, x.blob(map, -1), Bench.BAD);
        }
    }

    private static void counts() {
        Bench x = new Bench().files("0", "a", "12", "0", "b", "345", "0", "c", "12", "1", "a", "12", "1", "x", "6",
                "2", "y", "");
        int[] want = {3, 2, 1, 4, 6, 0, 0, 0};
        for (int what = 0; what < want.length; what++) {
            Bench.due("count " + what, x.count(what), want[what]);
        }
        x.merge();
        Bench.due("OUTCOMES", x.count(5), 2);
        x.arg("1").arg("2").arg("3");
        x.type("12345");
        Bench.due("INPUT", x.count(6), 20);
        Bench.due("ARGUMENTS", x.count(7), 3);
        for (int what : new int[] {-1, 8, 9, Integer.MAX_VALUE, Integer.MIN_VALUE}) {
            Bench.due("count " + what, x.count(what), -1);
        }
    }

    public static void main(String[] args) {
        outcomes();
        letters();
        blobs();
        counts();
        Bench.finish();
    }
}
