/** Promise 8. */
public final class RenamedTest {
    private static void due(String what, String want, String... rows) {
        Bench.due(what, new Bench().files(rows).renames(0, 1), want);
    }

    private static void oneRename() {
        Bench x = new Bench().files("0", "a", "1", "0", "k", "T", "0", "z", "2", "1", "a", "1", "1", "b", "T");
        Bench.due("GONE", x.renamed(0, 1, 0, 0), 1);
        Bench.due("COME", x.renamed(0, 1, 0, 1), 1);
        Bench.due("SCORE", x.renamed(0, 1, 0, 2), 1000);
        Bench.due("back", x.renames(1, 0), "1>1 1000");
        Bench.due("to another MAP", x.renames(0, 2), "");
        Bench.due("another i", x.renamed(0, 1, 1, 0), Bench.NOT_THERE);
        for (int i : new int[] {-1, 2, 400, Integer.MAX_VALUE, Integer.MIN_VALUE}) {
            Bench.due("i " + i, x.renamed(0, 1, i, 2), Bench.NOT_THERE);
        }
        x.arg("b");
        Bench.due("ARGUMENTS don't matter", x.renamed(0, 1, 0, 0), 1);
        Bench.due("ARGUMENTS stay", x.count(7), 1);
        x.drop(1);
        Bench.due("the MAPS of now", x.renames(0, 1), "");
    }

    private static void wrongNumbers() {
        Bench x = new Bench().files("0", "a", "T", "1", "b", "T");
        int[][] wrong = {{0, 0, 0, 0}, {1, 1, 0, 0}, {2, 2, 0, 0}, {-1, 0, 0, 0}, {0, -1, 0, 0}, {3, 0, 0, 0},
            {0, 3, 0, 0}, {0, 1, 0, -1}, {0, 1, 0, 3}, {0, 1, 9, 3}, {0, 0, -1, 0}, {0, 1, -1, 7}};
        for (int[] w : wrong) {
            Bench.due("renamed " + w[0] + " " + w[1] + " " + w[2] + " " + w[3], x.renamed(w[0], w[1], w[2], w[3]),
                    Bench.BAD);
        }
    }

    private static void scores() {
        due("499", "", "0", "p", "a".repeat(498) + "\n" + "b".repeat(500) + "\n",
                "1", "q", "a".repeat(498) + "\n" + "c".repeat(500) + "\n");
        due("just 500", "0>0 500", "0", "p", "a\nb\n", "1", "q", "a\nc\n");
        due("cut off", "0>0 666", "0", "p", "a\nb\nc\n", "1", "q", "a\nb\nd\n");
        due("the greater length", "0>0 750", "0", "p", "a\nb\nc\nd\n", "1", "q", "a\nb\nc\n");
        due("the greater length, back", "0>0 750", "0", "p", "a\nb\nc\n", "1", "q", "a\nb\nc\nd\n");
        due("less than half", "", "0", "p", "a\n", "1", "q", "a\nb\nc\n");
        due("as often as in the other", "0>0 500", "0", "p", "a\na\na\nb\n", "1", "q", "a\na\nc\nc\n");
        due("as often as in the other", "", "0", "p", "a\na\na\na\n", "1", "q", "a\n");
        due("as often as in the other, back", "", "0", "p", "a\n", "1", "q", "a\na\na\na\n");
        due("in another order", "0>0 1000", "0", "p", "a\nb\n", "1", "q", "b\na\n");
        due("with and without lf", "0>0 571", "0", "p", "a\nb\nabc", "1", "q", "a\nb\nab");
        due("without lf is another LINE", "", "0", "p", "a", "1", "q", "a\n");
        due("lengths count, not LINES", "0>0 714", "0", "p", "aaaa\nb\n", "1", "q", "aaaa\nc\n");
        due("lengths count, not LINES", "", "0", "p", "a\nb\nccccc\n", "1", "q", "a\nb\nddddd\n");
    }

    // Such pairs share a place in tables that go by sums of powers of 31.
    private static void linesThatLookAlike() {
        due("LINES of one length", "", "0", "p", "Aa\n", "1", "q", "BB\n");
        due("the first one", "0>0 500", "0", "p", "Aa\nBB\n", "1", "q", "Aa\nxx\n");
        due("the second one", "0>0 500", "0", "p", "Aa\nBB\n", "1", "q", "BB\nxx\n");
        due("of four, the third", "0>0 500", "0", "p", "AaAa\nBBBB\nAaBB\nBBAa\n",
                "1", "q", "AaBB\nxxxx\nyyyy\nAaAa\n");
    }

    private static void manyLines() {
        Bench x = new Bench();
        for (int k = 0; k < 30; k++) {
            StringBuilder s = new StringBuilder();
            for (int j = 0; j < 150; j++) {
                s.append((char) ('A' + k)).append((char) (33 + j)).append("\n");
            }
            x.files("0", "p" + (10 + k), s.toString(), "1", "q" + (39 - k), s.substring(3) + "x\n");
        }
        StringBuilder want = new StringBuilder();
        for (int k = 0; k < 30; k++) {
            want.append(k == 0 ? "" : ", ").append(k).append(">").append(29 - k).append(" 993");
        }
        Bench.due("many LINES", x.renames(0, 1), want);
    }

    private static void emptyAndRough() {
        due("empty TEXTS", "", "0", "p", "", "1", "q", "");
        due("one empty TEXT", "", "0", "p", "a\n", "1", "q", "");
        due("a ROUGH TEXT", "", "0", "p", "a\nb\nc\n\0", "1", "q", "a\nb\nc\n");
        due("a ROUGH TEXT, back", "", "0", "p", "a\nb\nc\n", "1", "q", "a\nb\nc\n\0");
        due("the same ROUGH TEXT", "0>0 1000", "0", "p", "a\n\0", "1", "q", "a\n\0");
        due("200 LINES", "0>0 995", "0", "p", "\n".repeat(200), "1", "q", "\n".repeat(199));
        due("201 LINES", "", "0", "p", "\n".repeat(200), "1", "q", "\n".repeat(201));
        due("200 LINES and a last one", "", "0", "p", "\n".repeat(200), "1", "q", "\n".repeat(200) + "x");
    }

    private static void theGreatestScoreFirst() {
        due("greatest SCORE", "0>1 750, 1>0 1000", "0", "a", "1\n2\n3\n4\n", "0", "b", "1\n2\n3\n5\n",
                "1", "x", "1\n2\n3\n5\n", "1", "y", "1\n2\n3\n6\n");
        due("least GONE", "0>0 1000", "0", "a", "T", "0", "b", "T", "1", "x", "T");
        due("least COME", "0>0 1000", "0", "a", "T", "1", "x", "T", "1", "y", "T");
        due("in order", "0>0 1000, 1>1 1000", "0", "a", "T", "0", "b", "T", "1", "x", "T", "1", "y", "T");
        due("one SCORE, another order of LINES", "0>0 1000, 1>1 1000", "0", "a", "1\n2\n", "0", "b", "2\n1\n",
                "1", "x", "2\n1\n", "1", "y", "1\n2\n");
        due("what is left over", "0>0 750, 1>1 500", "0", "a", "1\n2\n3\n4\n", "0", "b", "1\n2\n5\n6\n",
                "1", "x", "1\n2\n3\n9\n", "1", "y", "1\n2\n7\n8\n");
        due("PATHS of both are no RENAME", "", "0", "a", "T", "0", "b", "U", "1", "a", "U", "1", "b", "T");
    }

    private static Bench many(int gone, int come) {
        Bench x = new Bench();
        for (int k = 0; k < gone; k++) {
            x.files("0", "g" + (10 + k), k == 0 ? "a\nb\n" : k == 1 ? "S" : "");
        }
        for (int k = 0; k < come; k++) {
            x.files("1", "c" + (10 + k), k == 0 ? "a\nc\n" : k == 2 ? "S" : "");
        }
        return x;
    }

    private static void manyPaths() {
        Bench.due("50 and 50", many(50, 50).renames(0, 1), "0>0 500, 1>2 1000");
        Bench.due("51 GONE", many(51, 3).renames(0, 1), "1>2 1000");
        Bench.due("51 COME", many(3, 51).renames(0, 1), "1>2 1000");
        Bench x = many(50, 50);
        x.files("0", "same", "x", "1", "same", "y");
        Bench.due("PATHS of both don't count", x.renames(0, 1), "0>0 500, 1>2 1000");
        Bench y = new Bench();
        for (int k = 0; k < 60; k++) {
            y.files("0", "g" + (10 + k), k % 2 == 0 ? "T" : "");
        }
        y.files("1", "c", "T", "1", "b", "T", "1", "d", "U", "1", "e", "");
        Bench.due("least GONE and COME of many", y.renames(0, 1), "0>0 1000, 2>1 1000");
    }

    public static void main(String[] args) {
        oneRename();
        wrongNumbers();
        scores();
        linesThatLookAlike();
        manyLines();
        emptyAndRough();
        theGreatestScoreFirst();
        manyPaths();
        Bench.finish();
    }
}
