/** Promise 7: TEXTS line by line. */
public final class MergedTextTest {
    private static void due(String base, String ours, String theirs, String want, boolean conflict) {
        Bench x = new Bench().files("0", "p", base, "1", "p", ours, "2", "p", theirs);
        String what = "[" + base + "|" + ours + "|" + theirs + "]";
        Bench.due(what + " merge", x.merge(), conflict ? 1 : 0);
        Bench.due(what, x.textOf(0), want);
        Bench.due(what + " UNMERGED", x.outcome(0, 1), conflict ? 1 : 0);
        Bench.due(what + " STAGES", x.outcome(0, 3) + x.outcome(0, 4) + x.outcome(0, 5), conflict ? "012" : "-1-1-1");
        if (conflict) {
            Bench.due(what + " BLOB", x.outcome(0, 6), -1);
        }
    }

    private static String clash(String ours, String theirs) {
        return "<<<<<<< ours\n" + ours + "=======\n" + theirs + ">>>>>>> theirs\n";
    }

    private static String lines(int n) {
        StringBuilder s = new StringBuilder();
        for (int k = 0; k < n; k++) {
            s.append((char) ('A' + k % 26)).append((char) ('a' + k / 26)).append('\n');
        }
        return s.toString();
    }

    private static void changesApart() {
        due("1\n2\n3\n", "0\n2\n3\n", "1\n2\n4\n", "0\n2\n4\n", false);
        due("1\n2\n3\n", "2\n3\n", "1\n2\n", "2\n", false);
        due("1\n2\n3\n", "x\n1\n2\n3\n", "1\n2\n3\ny\n", "x\n1\n2\n3\ny\n", false);
        due("1\n2\n3\n", "1\nx\n2\n3\n", "1\n2\ny\n3\n", "1\nx\n2\ny\n3\n", false);
        due("1\n2\n3", "0\n2\n3", "1\n2\n3\n", "0\n2\n3\n", false);
    }

    private static void changesAtOnePlace() {
        due("1\n2\n3\n", "1\nx\n3\n", "1\ny\n3\n", "1\n" + clash("x\n", "y\n") + "3\n", true);
        due("1\n2\n3\n", "1\n3\n", "1\ny\n3\n", "1\n" + clash("", "y\n") + "3\n", true);
        due("1\n2\n3\n", "1\nx\n3\n", "1\n3\n", "1\n" + clash("x\n", "") + "3\n", true);
        due("1\n2\n", "x\n2\n", "y\n2\n", clash("x\n", "y\n") + "2\n", true);
        due("1\n2\n", "1\nx\n", "1\ny\n", "1\n" + clash("x\n", "y\n"), true);
        due("1\n2\n3\n4\n", "0\n2\nx\n4\n", "0\n2\ny\n4\n", "0\n2\n" + clash("x\n", "y\n") + "4\n", true);
        due("1\n2\n3\n", "a\n2\nb\n", "c\n2\nd\n", clash("a\n", "c\n") + "2\n" + clash("b\n", "d\n"), true);
        due("1\n2\n", "x\ny\n", "x\nz\n", clash("x\ny\n", "x\nz\n"), true);
    }

    private static void lastLinesWithoutLf() {
        due("1\n", "1\nx", "1\ny", "1\n" + clash("x\n", "y\n"), true);
        due("1\n", "1\nx", "1\nx\n", "1\n" + clash("x\n", "x\n"), true);
        due("1", "1\n", "", clash("1\n", ""), true);
        due("1\n2", "1\n2\n", "1\n2x", "1\n" + clash("2\n", "2x\n"), true);
        due("1\n2\n3", "0\n2\n3", "1\n2\n4", "0\n2\n4", false);
        due("1\n2\n", "0\n1\n2\n", "1\n2", "0\n1\n2", false);
        due("", "x", "y", clash("x\n", "y\n"), true);
        due("1", "", "2", clash("", "2\n"), true);
    }

    // With two longest rows, the LINE of base is passed over first: which LINES are STABLE depends on it.
    private static void pairsOfTwoLongestRows() {
        due("a\nb\n", "b\na\n", "a\nb\nc\n", "b\n" + clash("a\n", "c\n"), true);
        due("a\nb\nc\n", "c\nb\n", "a\nb\nc\nd\n", "c\n" + clash("b\n", "d\n"), true);
        due("a\nb\na\n", "a\na\n", "a\nb\na\nx\n", "a\na\nx\n", false);
        due("a\n", "b\na\na\n", "a\nc\n", "b\na\n" + clash("a\n", "c\n"), true);
        due("a\na\n", "a\n", "a\na\nb\n", "a\n" + clash("", "a\nb\n"), true);
        due("x\ny\nz\nx\n", "z\nx\nx\ny\n", "x\ny\nz\nx\nw\n", "z\nx\n" + clash("x\ny\n", "w\n"), true);
    }

    private static void roughTexts() {
        due("1\n", "2\n\0", "3\n", "2\n\0", true);
        due("1\n\0", "2\n", "3\n", "2\n", true);
        due("1\n", "2\n", "3\n\0", "2\n", true);
        String full = lines(200);
        due(full, "0\n" + full.substring(3), full + "z\n", "0\n" + full.substring(3), true);
        due(full, "0\n" + full.substring(3), full.substring(0, 597) + "z\n", "0\n" + full.substring(3, 597) + "z\n",
                false);
        due(full + "z", "0\n", "1\n", "0\n", true);
        due("1\n", full, "2\n", clash(full, "2\n"), true);
        due("1\n", full + "z", "2\n", full + "z", true);
        due("1\n", "2\n", full + "z", "2\n", true);
        due("1\n", "2\n", "\n".repeat(200), clash("2\n", "\n".repeat(200)), true);
        due("1\n", "2\n", "\n".repeat(201), "2\n", true);
    }

    // What one MERGING leaves behind in the object's rows must not matter to the next file, nor to the next MERGING.
    private static void severalTexts() {
        Bench x = new Bench();
        x.files("0", "a", "1\n2\n3\n4\n5\n", "1", "a", "1\n2\nx\n4\n5\n", "2", "a", "1\n2\ny\n4\n5\n");
        x.files("0", "b", "1\n2\n", "1", "b", "0\n1\n2\n", "2", "b", "1\n2\n3\n");
        x.files("0", "c", "c\n", "1", "c", "o", "2", "c", "t");
        x.files("0", "d", "4\n5\n6\n", "1", "d", "5\n6\n7\n", "2", "d", "3\n4\n5\n6\n");
        String want = "a U 0 1 2 blob -1 [1\n2\n" + clash("x\n", "y\n") + "4\n5\n]; b - -1 -1 -1 blob -1 [0\n1\n2\n3\n]; "
                + "c U 6 7 8 blob -1 [" + clash("o\n", "t\n") + "]; d U 9 10 11 blob -1 [" + clash("", "3\n4\n")
                + "5\n6\n7\n]";
        for (int k = 0; k < 3; k++) {
            Bench.due("merge", x.merge(), 3);
            Bench.due("OUTCOMES", x.all(), want);
        }
        Bench y = new Bench().files("2", "p", "b\n", "0", "p", "a\n", "1", "p", "c\n");
        Bench.due("theirs is BLOB 0", y.merge(), 1);
        Bench.due("theirs is BLOB 0", y.whole(0), "p U 1 2 0 blob -1 [" + clash("c\n", "b\n") + "]");
        Bench z = new Bench().files("1", "p", "b\n", "0", "p", "a\n", "2", "p", "c\n");
        Bench.due("ours is BLOB 0", z.merge(), 1);
        Bench.due("ours is BLOB 0", z.whole(0), "p U 1 0 2 blob -1 [" + clash("b\n", "c\n") + "]");
    }

    // Rows of common LINES that must be told from what a longer TEXT left in the table.
    private static void longTextsThenShortOnes() {
        String longer = lines(60);
        String[][] shorter = {{"a\nb\n", "b\na\n", "a\nb\nc\n"}, {"x\ny\nz\nx\n", "z\nx\nx\ny\n", "x\ny\nz\nx\nw\n"},
            {"a\nb\nc\na\nb\n", "b\na\nb\na\nc\n", "c\na\nb\nb\n"}, {"a\n", "b\na\na\n", "a\nc\n"}};
        Bench x = new Bench();
        for (String[] t : shorter) {
            x.files("0", "p", longer, "1", "p", "0\n" + longer, "2", "p", longer + "1\n");
            Bench.due("merge", x.merge(), 0);
            Bench.due("the longer one", x.textOf(0), "0\n" + longer + "1\n");
            x.files("0", "p", t[0], "1", "p", t[1], "2", "p", t[2]);
            Model.Merged m = Model.merged(t[0], t[1], t[2]);
            Bench.due("merge", x.merge(), m.conflict ? 1 : 0);
            Bench.due("the shorter one", x.textOf(0), m.text);
        }
    }

    private static void highBytes() {
        due("\u00ff\n\u0080\n\1\n", "\u00fe\n\u0080\n\1\n", "\u00ff\n\u0080\n\2\n", "\u00fe\n\u0080\n\2\n", false);
        due("a\r\nb\r\n", "a\r\nc\r\n", "a\nb\r\n", clash("a\r\nc\r\n", "a\nb\r\n"), true);
    }

    private static void manyConflicts() {
        StringBuilder base = new StringBuilder();
        StringBuilder ours = new StringBuilder();
        StringBuilder theirs = new StringBuilder();
        StringBuilder want = new StringBuilder();
        for (int k = 0; k < 100; k++) {
            String stable = "s" + k + "\n";
            base.append(stable);
            ours.append("o" + "o".repeat(30) + "\n").append(stable);
            theirs.append("t" + "t".repeat(30) + "\n").append(stable);
            want.append(clash("o" + "o".repeat(30) + "\n", "t" + "t".repeat(30) + "\n")).append(stable);
        }
        due(base.toString(), ours.toString(), theirs.toString(), want.toString(), true);
    }

    public static void main(String[] args) {
        changesApart();
        changesAtOnePlace();
        lastLinesWithoutLf();
        pairsOfTwoLongestRows();
        roughTexts();
        severalTexts();
        longTextsThenShortOnes();
        highBytes();
        manyConflicts();
        Bench.finish();
    }
}
