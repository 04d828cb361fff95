import java.util.List;

/** Edges of the MERGED TEXT: promise 7. */
public final class MergedTextEdgeTest {
    private static void due(String base, String ours, String theirs, String want) {
        boolean conflict = want.contains("<<<<<<<");
        Bench x = new Bench().files("0", "p", base, "1", "p", ours, "2", "p", theirs);
        String what = "[" + base + "|" + ours + "|" + theirs + "]";
        Bench.due(what + " merge", x.merge(), conflict ? 1 : 0);
        Bench.due(what + " length", x.outcome(0, 2), want.length());
        Bench.due(what, x.textOf(0), want);
        Bench.due(what + " UNMERGED", x.outcome(0, 1), conflict ? 1 : 0);
        Bench.due(what + " STAGE 1", x.outcome(0, 3), conflict ? 0 : -1);
        Bench.due(what + " BLOB", x.outcome(0, 6), conflict ? -1 : List.of(base, ours, theirs).indexOf(want));
    }

    /** The same with ours and theirs in each other's place. */
    private static void dueBothWays(String base, String ours, String theirs, String want) {
        due(base, ours, theirs, want);
        due(base, theirs, ours, want);
    }

    private static String clash(String ours, String theirs) {
        return "<<<<<<< ours\n" + ours + "=======\n" + theirs + ">>>>>>> theirs\n";
    }

    private static void beforeBetweenAndBehind() {
        Bench.sentence("Between STABLE LINES (and before the first and behind the last) there's a part");
        dueBothWays("1\n2\n3\n", "0\n1\n2\n3\n", "1\n2\n3\n4\n", "0\n1\n2\n3\n4\n");
        dueBothWays("1\n2\n3\n", "0\n1\n2\n3\n", "1\nx\n2\n3\n", "0\n1\nx\n2\n3\n");
        dueBothWays("1\n2\n3\n", "1\nx\n2\n3\n", "1\n2\ny\n3\n", "1\nx\n2\ny\n3\n");
        dueBothWays("1\n2\n3\n", "1\n2\nx\n3\n", "1\n2\n3\ny\n", "1\n2\nx\n3\ny\n");
        dueBothWays("1\n2\n3\n", "2\n3\n", "1\n2\n", "2\n");
        dueBothWays("1\n2\n3\n", "1\n3\n", "1\n2\n3\n4\n", "1\n3\n4\n");
        dueBothWays("1\n", "0\n1\n", "1\n2\n", "0\n1\n2\n");
        due("1\n2\n3\n", "a\n1\nb\n2\nc\n3\nd\n", "e\n1\nf\n2\ng\n3\nh\n", clash("a\n", "e\n") + "1\n"
                + clash("b\n", "f\n") + "2\n" + clash("c\n", "g\n") + "3\n" + clash("d\n", "h\n"));
        due("1\n2\n", "3\n4\n", "5\n6\n", clash("3\n4\n", "5\n6\n"));
    }

    private static void oursIsAsBases() {
        Bench.sentence("theirs if ours is as base's");
        due("1\n2\n3\n4\n", "1\n2\n3\nx\n", "1\ny\n3\n4\n", "1\ny\n3\nx\n");
        due("1\n2\n3\n4\n", "1\n2\n3\nx\n", "1\n3\n4\n", "1\n3\nx\n");
        due("1\n3\n4\n", "1\n3\nx\n", "1\n2\n3\n4\n", "1\n2\n3\nx\n");
        due("1\n2\n3", "0\n2\n3", "1\n2\n3\n", "0\n2\n3\n");
        due("1\n2\n3\n", "0\n2\n3\n", "1\n2\n3", "0\n2\n3");
    }

    private static void theirsIsAsBasesOrAsOurs() {
        Bench.sentence("ours if theirs is as base's, or as ours");
        due("1\n2\n3\n4\n", "1\ny\n3\n4\n", "1\n2\n3\nx\n", "1\ny\n3\nx\n");
        due("1\n2\n3\n4\n", "1\n3\n4\n", "1\n2\n3\nx\n", "1\n3\nx\n");
        due("1\n3\n4\n", "1\n2\n3\n4\n", "1\n3\nx\n", "1\n2\n3\nx\n");
        due("1\n2\n3\n4\n", "1\nz\n3\nx\n", "1\nz\n3\n4\n", "1\nz\n3\nx\n");
        due("1\n2\n3\n4\n", "1\n3\nx\n", "1\n3\n4\n", "1\n3\nx\n");
        due("1\n3\n4\n", "1\n2\n3\nx\n", "1\n2\n3\n4\n", "1\n2\n3\nx\n");
        due("1\n2\n3\n4\n", "0\n2\nz\n4\n", "0\n2\n3\ny\n", "0\n2\n" + clash("z\n4\n", "3\ny\n"));
    }

    private static void emptyParts() {
        Bench.sentence("else it's a CONFLICT");
        due("1\n2\n3\n", "1\n3\n", "1\nx\n3\n", "1\n" + clash("", "x\n") + "3\n");
        due("1\n2\n3\n", "1\nx\n3\n", "1\n3\n", "1\n" + clash("x\n", "") + "3\n");
        due("1\n3\n", "1\nx\n3\n", "1\ny\n3\n", "1\n" + clash("x\n", "y\n") + "3\n");
        due("1\n", "", "2\n", clash("", "2\n"));
        due("1\n", "2\n", "", clash("2\n", ""));
        due("", "1\n", "2\n", clash("1\n", "2\n"));
        due("1\n2\n", "2\n", "x\n2\n", clash("", "x\n") + "2\n");
        due("1\n2\n", "1\n", "1\nx\n", "1\n" + clash("", "x\n"));
        due("1\n2\n", "x\n2\n", "2\n", clash("x\n", "") + "2\n");
        due("1\n2\n", "1\nx\n", "1\n", "1\n" + clash("x\n", ""));
        due("\n", "\n\n", "", clash("\n\n", ""));
    }

    private static void lfBehindAPart() {
        Bench.sentence("an lf being put behind ours or theirs if it isn't empty and ends without one");
        due("1\n", "x", "y", clash("x\n", "y\n"));
        due("1\n", "x\n", "y", clash("x\n", "y\n"));
        due("1\n", "x", "y\n", clash("x\n", "y\n"));
        due("1\n", "x", "", clash("x\n", ""));
        due("1\n", "", "y", clash("", "y\n"));
        due("1\n", "x\n\n", "y\nz", clash("x\n\n", "y\nz\n"));
        due("1\n", "x", "x\n", clash("x\n", "x\n"));
        due("1", "1\n", "1\n2", clash("1\n", "1\n2\n"));
        due("1\n2", "1\n2\n", "1\n", "1\n" + clash("2\n", ""));
        due("1\n2\n", "1\nx", "1\ny", "1\n" + clash("x\n", "y\n"));
        due("1\n2\n", "x\n2", "y\n2", clash("x\n2\n", "y\n2\n"));
        due("1\n2", "x\n2", "y\n2", clash("x\n", "y\n") + "2");
    }

    private static void whichLineIsPassedOver() {
        Bench.sentence("the first one's LINE is passed over, if the longest row .. is .. as long .. or longer");
        // As long behind both: the LINE of base, "a", is passed over; so "b" is STABLE.
        due("a\nb\n", "b\na\n", "a\nb\nc\n", "b\n" + clash("a\n", "c\n"));
        due("a\nb\n", "a\nb\nc\n", "b\na\n", "b\n" + clash("c\n", "a\n"));
        due("a\nb\nc\n", "c\nb\na\n", "a\nb\nc\nd\n", "c\n" + clash("b\na\n", "d\n"));
        // Longer behind the first one's LINE.
        due("x\na\nb\n", "a\nb\nx\n", "x\na\nb\ny\n", "a\nb\n" + clash("x\n", "y\n"));
        // Longer behind the second one's LINE.
        due("a\nb\nx\n", "x\na\nb\n", "a\nb\nx\ny\n", "x\na\nb\n" + clash("", "x\ny\n"));
    }

    private static void theFirstSameLinesArePairs() {
        Bench.sentence("if the two LINES are the same, they're a pair");
        due("a\na\n", "a\n", "a\na\nb\n", "a\n" + clash("", "a\nb\n"));
        due("a\n", "a\na\n", "a\nb\n", "a\n" + clash("a\n", "b\n"));
        due("a\n", "b\na\na\n", "a\nc\n", "b\na\n" + clash("a\n", "c\n"));
        due("\n\n\n", "\n\n", "\n\n\n\n", "\n\n" + clash("", "\n\n"));
    }

    private static void stableInBoth() {
        Bench.sentence("A LINE of base is STABLE if it's in a pair with both");
        due("1\n2\n3\n", "1\nx\n3\n", "2\n3\ny\n", clash("1\nx\n", "2\n") + "3\ny\n");
        due("1\n2\n3\n", "1\n2\n", "2\n3\n", "2\n");
        due("1\n2\n3\n", "1\nx\n", "y\n3\n", clash("1\nx\n", "y\n3\n"));
    }

    private static void aRoughOne() {
        Bench.sentence("If one is ROUGH ..: ours, and a CONFLICT");
        String[][] rows = {{"1\n\0", "2\n", "3\n"}, {"1\n", "2\n\0", "3\n"}, {"1\n", "2\n", "3\n\0"},
            {"\0", "\0\0", "\0\1"}, {"1\n", "", "\0"}, {"1\n", "\0", ""}, {"\0", "", "1\n"}, {"\0", "1\n", ""},
            {"", "\0", "1"}, {"", "1", "\0"}};
        for (String[] r : rows) {
            Bench x = new Bench().files("0", "p", r[0], "1", "p", r[1], "2", "p", r[2]);
            Bench.due("merge", x.merge(), 1);
            Bench.due("OUTCOME", x.all(), "p U 0 1 2 blob -1 [" + r[1] + "]");
        }
        Bench y = new Bench().files("0", "p", "\0", "1", "p", "\0", "2", "p", "\0\0");
        Bench.due("no MERGED TEXT is needed", y.merge(), 0);
        Bench.due("no MERGED TEXT is needed", y.all(), "p - -1 -1 -1 blob 1 [\0\0]");
        Bench z = new Bench().files("0", "p", "\0", "1", "p", "\0\0", "2", "p", "\0\0");
        Bench.due("no MERGED TEXT is needed", z.merge(), 0);
        Bench.due("no MERGED TEXT is needed", z.all(), "p - -1 -1 -1 blob 1 [\0\0]");
    }

    private static String lines(int n, String part) {
        StringBuilder s = new StringBuilder();
        for (int k = 0; k < n; k++) {
            s.append(part).append((char) ('a' + k / 20)).append((char) ('a' + k % 20)).append('\n');
        }
        return s.toString();
    }

    private static void twoHundredLines() {
        Bench.sentence("ROUGH if .. it has more than 200 LINES");
        String full = lines(200, "");
        String without = full.substring(0, 599);
        Bench x = new Bench().files("0", "p", full, "1", "p", "x\n" + full.substring(3), "2", "p", without);
        Bench.due("merge of 200 LINES", x.merge(), 0);
        Bench.due("length", x.outcome(0, 2), 598);
        Bench.due("the first BYTE", x.letter(0, 1, 0), (int) 'x');
        Bench.due("the last BYTE", x.letter(0, 1, 597), (int) 't');
        Bench y = new Bench().files("0", "p", full, "1", "p", "x\n" + full, "2", "p", without);
        Bench.due("merge with 201 LINES of ours", y.merge(), 1);
        Bench.due("length", y.outcome(0, 2), 602);
        Bench z = new Bench().files("0", "p", full, "1", "p", without, "2", "p", full + "x");
        Bench.due("merge with 201 LINES of theirs", z.merge(), 1);
        Bench.due("length", z.outcome(0, 2), 599);
        Bench v = new Bench().files("0", "p", full + "x", "1", "p", without, "2", "p", full);
        Bench.due("merge with 201 LINES of base", v.merge(), 1);
        Bench.due("length", v.outcome(0, 2), 599);
        Bench w = new Bench().files("1", "p", full, "2", "p", lines(200, "x"));
        Bench.due("all of 200 LINES in CONFLICT", w.merge(), 1);
        Bench.due("length", w.outcome(0, 2), 600 + 800 + 36);
    }

    // No MERGED TEXT can be longer than 65536: this one is the longest that 512 calls can reach, or near it.
    private static void aLongText() {
        Bench.sentence("or the outcome longer than 65536");
        StringBuilder ours = new StringBuilder();
        StringBuilder theirs = new StringBuilder();
        for (int k = 0; k < 100; k++) {
            ours.append("o".repeat(38)).append("\n\n");
            theirs.append("t".repeat(38)).append("\n\n");
        }
        Bench x = new Bench().files("0", "p", "\n".repeat(100), "1", "p", ours.toString(), "2", "p", theirs.toString());
        Bench.due("merge", x.merge(), 1);
        Bench.due("length", x.outcome(0, 2), 100 * (36 + 39 + 39 + 1));
        Bench.due("STAGE 3", x.outcome(0, 5), 2);
        Bench.due("the last conflict's theirs", x.letter(0, 1, 11500 - 18), (int) 't');
        Bench.due("its mark", x.letter(0, 1, 11500 - 16), (int) '>');
        Bench.due("the last BYTE", x.letter(0, 1, 11499), 10);
        Bench.due("behind it", x.letter(0, 1, 11500), Bench.NOT_THERE);
    }

    public static void main(String[] args) {
        beforeBetweenAndBehind();
        oursIsAsBases();
        theirsIsAsBasesOrAsOurs();
        emptyParts();
        lfBehindAPart();
        whichLineIsPassedOver();
        theFirstSameLinesArePairs();
        stableInBoth();
        aRoughOne();
        twoHundredLines();
        aLongText();
        Bench.finishWithinMostCalls();
    }
}
