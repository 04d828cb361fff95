/** Promise 7: which OUTCOMES there are, and where; the TEXTS line by line are in MergedTextTest. */
public final class MergeTest {
    private static final String LONG = "line one\nline two\nline three\nline four\n";

    private static void due(String what, String outcomes, String... rows) {
        Bench x = new Bench().files(rows);
        boolean refused = outcomes.equals(Bench.REFUSED);
        String unmerged = refused ? outcomes : "" + (outcomes.split(" U ", -1).length - 1);
        Bench.due(what + ": merge", x.merge(), unmerged);
        Bench.due(what, x.all(), refused ? "" : outcomes);
    }

    private static void filesThatStayAtTheirPaths() {
        due("same in all", "p - -1 -1 -1 blob 0 [A]", "0", "p", "A", "1", "p", "A", "2", "p", "A");
        due("ours changed", "p - -1 -1 -1 blob 1 [B]", "0", "p", "A", "1", "p", "B", "2", "p", "A");
        due("theirs changed", "p - -1 -1 -1 blob 1 [B]", "0", "p", "A", "1", "p", "A", "2", "p", "B");
        due("both alike", "p - -1 -1 -1 blob 1 [B]", "0", "p", "A", "1", "p", "B", "2", "p", "B");
        due("both otherwise", "p U 0 1 2 blob -1 [<<<<<<< ours\nB\n=======\nC\n>>>>>>> theirs\n]",
                "0", "p", "A", "1", "p", "B", "2", "p", "C");
        due("to an empty TEXT", "p - -1 -1 -1 blob 1 []", "0", "p", "A", "1", "p", "", "2", "p", "A");
    }

    private static void filesThatGo() {
        due("both dropped", "", "0", "p", "A");
        due("theirs dropped", "", "0", "p", "A", "1", "p", "A");
        due("ours dropped", "", "0", "p", "A", "2", "p", "A");
        due("theirs dropped, ours changed", "p U 0 1 -1 blob 1 [B]", "0", "p", "A", "1", "p", "B");
        due("ours dropped, theirs changed", "p U 0 -1 1 blob 1 [B]", "0", "p", "A", "2", "p", "B");
        due("theirs dropped, ours renamed", "q U 0 0 -1 blob 0 [A]", "0", "p", "A", "1", "q", "A");
        due("ours dropped, theirs renamed", "q U 0 -1 0 blob 0 [A]", "0", "p", "A", "2", "q", "A");
    }

    private static void filesThatCome() {
        due("in ours", "p - -1 -1 -1 blob 0 [A]", "1", "p", "A");
        due("in theirs", "p - -1 -1 -1 blob 0 [A]", "2", "p", "A");
        due("in both", "p - -1 -1 -1 blob 0 [A]", "1", "p", "A", "2", "p", "A");
        due("in both, otherwise", "p U -1 0 1 blob -1 [<<<<<<< ours\nA\n=======\nB\n>>>>>>> theirs\n]",
                "1", "p", "A", "2", "p", "B");
        due("in both, ours empty", "p - -1 -1 -1 blob 1 [B]", "1", "p", "", "2", "p", "B");
        due("in both, theirs empty", "p - -1 -1 -1 blob 0 [A]", "1", "p", "A", "2", "p", "");
        due("in both, ours ROUGH and theirs empty", "p U -1 0 1 blob -1 [A\0]", "1", "p", "A\0", "2", "p", "");
        due("in both, ours empty and theirs ROUGH", "p U -1 0 1 blob -1 []", "1", "p", "", "2", "p", "A\0");
        due("different ones, in order", "a - -1 -1 -1 blob 1 [B]; p!q - -1 -1 -1 blob 1 [B]; p/q - -1 -1 -1 blob 0 [A]",
                "1", "p/q", "A", "2", "p!q", "B", "2", "a", "B");
    }

    private static void filesThatWereRenamed() {
        due("in ours", "q - -1 -1 -1 blob 0 [A]", "0", "p", "A", "1", "q", "A", "2", "p", "A");
        due("in theirs", "q - -1 -1 -1 blob 0 [A]", "0", "p", "A", "1", "p", "A", "2", "q", "A");
        due("in both alike", "q - -1 -1 -1 blob 0 [A]", "0", "p", "A", "1", "q", "A", "2", "q", "A");
        due("in both otherwise", "r U 0 0 0 blob 0 [A]", "0", "p", "A", "1", "r", "A", "2", "q", "A");
        due("in ours, theirs changed", "q - -1 -1 -1 blob 1 [B]", "0", "p", "A", "1", "q", "A", "2", "p", "B");
        due("in theirs, ours changed", "q - -1 -1 -1 blob 1 [B]", "0", "p", "A", "1", "p", "B", "2", "q", "A");
        due("with a change, too", "q - -1 -1 -1 blob -1 [0\n" + LONG + "end\n]",
                "0", "p", LONG, "1", "q", "0\n" + LONG, "2", "p", LONG + "end\n");
        due("in both otherwise, with changes", "q U 0 1 2 blob -1 [0\n" + LONG + "end\n]",
                "0", "p", LONG, "1", "q", "0\n" + LONG, "2", "r", LONG + "end\n");
        due("in both otherwise, ours changed", "q U 0 1 0 blob 1 [0\n" + LONG + "]",
                "0", "p", LONG, "1", "q", "0\n" + LONG, "2", "r", LONG);
        due("in both otherwise, theirs changed", "q U 0 0 1 blob 1 [0\n" + LONG + "]",
                "0", "p", LONG, "1", "q", LONG, "2", "r", "0\n" + LONG);
        due("a swap isn't a rename", "p - -1 -1 -1 blob 1 [B]; q - -1 -1 -1 blob 0 [A]",
                "0", "p", "A", "0", "q", "B", "1", "p", "B", "1", "q", "A", "2", "p", "A", "2", "q", "B");
        due("too little is common", "q - -1 -1 -1 blob 1 [B]", "0", "p", "A", "1", "q", "B", "2", "p", "A");
        due("empty TEXTS aren't renamed", "q - -1 -1 -1 blob 0 []", "0", "p", "", "1", "q", "", "2", "p", "");
    }

    private static void refusedMergings() {
        due("two at one PATH", Bench.REFUSED,
                "0", "p", "A", "1", "p", "A", "1", "q", "B", "2", "q", "A");
        due("two at one PATH, by two RENAMES", Bench.REFUSED,
                "0", "p", "A", "0", "r", "B", "1", "q", "A", "1", "r", "B", "2", "p", "A", "2", "q", "B");
        due("BENEATH", Bench.REFUSED, "1", "p", "A", "2", "p/q", "B");
        due("BENEATH, with one between", Bench.REFUSED, "1", "p", "A", "1", "p!", "A", "2", "p/q/r", "B");
        due("BENEATH what goes", "p/q - -1 -1 -1 blob 0 [A]", "0", "p", "A", "1", "p", "A", "2", "p/q", "A");
        due("a used PATH and a new one apart", "q - -1 -1 -1 blob 1 [B]; r U 0 0 0 blob 0 [A]",
                "0", "p", "A", "1", "r", "A", "1", "q", "B", "2", "q", "A");
    }

    private static void aRefusedMergingLeavesTheLatest() {
        Bench x = new Bench().files("1", "p", "A", "2", "p", "B", "2", "r", "C");
        Bench.due("merge", x.merge(), 1);
        String before = x.all();
        x.files("1", "r/s", "D");
        Bench.due("merge", x.merge(), Bench.REFUSED);
        Bench.due("OUTCOMES stay", x.all(), before);
        x.arg("a");
        Bench.due("merge with an ARGUMENT", x.merge(), Bench.BAD);
        Bench.due("ARGUMENTS", x.count(7), 0);
        Bench.due("OUTCOMES stay", x.all(), before);
        x.drop(2, "r");
        Bench.due("merge", x.merge(), 1);
        Bench.due("new OUTCOMES", x.pathOf(1), "r/s");
        Bench.due("MERGING makes no BLOBS", x.count(3), 4);
        Bench.due("nor changes MAPS", x.count(0) + " " + x.count(1) + " " + x.count(2), "0 2 1");
    }

    private static void outcomesStayAsTheyWere() {
        Bench x = new Bench().files("0", "p", "1\n2\n3\n", "1", "p", "0\n1\n2\n3\n", "2", "p", "1\n2\n3\n4\n");
        Bench.due("merge", x.merge(), 0);
        String before = "p - -1 -1 -1 blob -1 [0\n1\n2\n3\n4\n]";
        Bench.due("OUTCOMES", x.all(), before);
        Bench.due("put of that TEXT", x.put(1, "q", "0\n1\n2\n3\n4\n"), 3);
        Bench.due("no BLOB was it then", x.all(), before);
        x.drop(1, "p");
        x.drop(2, "p");
        x.copy(1, 0);
        Bench.due("OUTCOMES stay", x.all(), before);
        Bench y = new Bench().files("0", "p", "1\n2\n3\n", "1", "p", "0\n1\n2\n3\n", "2", "p", "1\n2\n3\n4\n",
                "2", "q", "0\n1\n2\n3\n4\n");
        y.merge();
        Bench.due("a BLOB is it", y.whole(0), "p - -1 -1 -1 blob 3 [0\n1\n2\n3\n4\n]");
    }

    // The limits below take more calls than the 512 that are promised; this program keeps them there, too.
    private static void mergedTextsHaveALimit() {
        Bench x = new Bench();
        String one = "x".repeat(4095);
        for (int k = 0; k < 8; k++) {
            x.files("1", "p" + k, "1", "2", "p" + k, "2");
        }
        x.files("1", "q", "a" + one, "2", "q", "b" + one);
        x.files("1", "r", "c" + one, "2", "r", "d" + one);
        x.files("1", "s", "e" + one, "2", "s", "a" + one);
        x.files("1", "t", "b" + one, "2", "t", "c" + one);
        x.files("1", "u", "d" + one, "2", "u", "e" + one);
        x.files("1", "v", "a" + one, "2", "v", "c" + one);
        x.files("1", "w", "a" + one, "2", "w", "d" + one);
        // Seven times 8192 + 38, and eight times 40, is 57930.
        Bench.due("merge", x.merge(), 15);
        String before = x.all();
        x.files("1", "x", "y".repeat(3785), "2", "x", "z".repeat(3784));
        // 3785 + 3784 + 38 more make 65537.
        Bench.due("merge", x.merge(), Bench.REFUSED);
        Bench.due("OUTCOMES stay", x.all(), before);
        x.files("1", "x", "y".repeat(3784));
        Bench.due("merge", x.merge(), 16);
        Bench.due("the last OUTCOME", x.textOf(15).length(), 7606);
    }

    private static void outcomesHaveLimits() {
        Bench x = new Bench();
        for (int k = 0; k < 200; k++) {
            x.files("1", "p" + k, "t", "2", "q" + k, "t");
        }
        Bench.due("400 OUTCOMES", x.merge(), 0);
        Bench.due("400 OUTCOMES", x.count(5), 400);
        x.files("2", "z", "t");
        Bench.due("401 OUTCOMES", x.merge(), Bench.REFUSED);
        Bench.due("400 OUTCOMES", x.count(5), 400);

        Bench y = new Bench();
        for (int k = 0; k < 20; k++) {
            y.files("1", (char) ('A' + k) + "n".repeat(99) + "/" + "n".repeat(99), "t");
            y.files("2", (char) ('a' + k) + "n".repeat(99) + "/" + "n".repeat(99), "t");
        }
        y.files("1", "1".repeat(100), "t", "2", "2".repeat(92), "t");
        Bench.due("8192 BYTES", y.merge(), 0);
        y.files("2", "z", "t");
        Bench.due("8193 BYTES", y.merge(), Bench.REFUSED);
    }

    public static void main(String[] args) {
        filesThatStayAtTheirPaths();
        filesThatGo();
        filesThatCome();
        filesThatWereRenamed();
        refusedMergings();
        aRefusedMergingLeavesTheLatest();
        outcomesStayAsTheyWere();
        mergedTextsHaveALimit();
        outcomesHaveLimits();
        Bench.finish();
    }
}
