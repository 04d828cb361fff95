/** Edges of GONE, COME, SCORE and RENAMES: promise 8, and what promise 7 makes of them. */
public final class RenameEdgeTest {
    private static final int[] NO_MAPS = {Integer.MIN_VALUE, -2, -1, 3, 4, Integer.MAX_VALUE};

    private static void score(String what, String x, String y, Object want) {
        Bench b = new Bench().files("0", "p", x, "1", "q", y);
        Bench.due(what, b.renamed(0, 1, 0, 2), want);
        Bench.due(what + ", back", b.renamed(1, 0, 0, 2), want);
        boolean none = want.equals(Bench.NOT_THERE);
        Bench.due(what + ": GONE", b.renamed(0, 1, 0, 0), none ? want : 0);
        Bench.due(what + ": no other one", b.renamed(0, 1, 1, 0), Bench.NOT_THERE);
    }

    private static String line(char c, int length) {
        return ("" + c).repeat(length - 1) + "\n";
    }

    private static void theSame() {
        Bench.sentence("SCORE of two BLOBS: 1000 if they're the same");
        score("one BYTE", "a", "a", 1000);
        score("an lf", "\n", "\n", 1000);
        score("a ROUGH one", "\0", "\0", 1000);
        score("201 LINES", "\n".repeat(201), "\n".repeat(201), 1000);
        score("the longest", "x".repeat(2000), "x".repeat(2000), 1000);
    }

    private static void aRoughOne() {
        Bench.sentence("else 0 if one is ROUGH");
        score("one", "a\nb\n\0", "a\nb\n", Bench.NOT_THERE);
        score("both", "a\nb\n\0", "b\na\n\0", Bench.NOT_THERE);
        score("none", "a\nb\n\1", "a\nb\n", 800);
        score("by LINES", "\n".repeat(201), "\n".repeat(200), Bench.NOT_THERE);
        score("not by LINES", "\n".repeat(200), "\n".repeat(199), 995);
    }

    private static void cutOff() {
        Bench.sentence("1000 times the length of common LINES .. by the greater length of the two TEXTS, cut off");
        score("666.6", "a\nb\nc\n", "a\nb\nd\n", 666);
        score("999.5", line('a', 1999) + "x", line('a', 1999), 999);
        score("999.0", line('a', 999) + "x", line('a', 999) + "y", 999);
        score("1000, and not the same", "a\nb\n", "b\na\n", 1000);
        score("500.4", line('a', 501) + line('b', 500), line('a', 501) + line('c', 500), 500);
        score("the first is the longer", "a\nb\nc\nd\n", "a\nb\n", 500);
        score("lfs alone", "\n\n", "\n", 500);
    }

    private static void atLeast500() {
        Bench.sentence("a SCORE of at least 500");
        score("500.0", "a\nb\n", "a\nc\n", 500);
        score("499.5", line('a', 500) + line('b', 501), line('a', 500) + line('c', 501), Bench.NOT_THERE);
        score("499.0", line('a', 499) + line('b', 501), line('a', 499) + line('c', 501), Bench.NOT_THERE);
        score("501.0", line('a', 501) + line('b', 499), line('a', 501) + line('c', 499), 501);
        score("0", "a\n", "b\n", Bench.NOT_THERE);
    }

    private static void howOften() {
        Bench.sentence("each different LINE as often as in the one that has it less often");
        score("twice and four times", "a\na\n", "a\na\na\na\n", 500);
        score("once and three times", "a\n", "a\na\na\n", Bench.NOT_THERE);
        score("three times and twice, of two LINES", "a\na\na\nb\nb\n", "a\na\nb\nb\nb\n", 800);
        score("far apart", "a\nx\ny\nb\n", "b\nz\nw\na\n", 500);
        score("one of the pair only", "a\na\nb\n", "a\nb\nb\n", 666);
    }

    private static void emptyTexts() {
        Bench.sentence("and no empty TEXT");
        score("both", "", "", Bench.NOT_THERE);
        score("one", "", "a", Bench.NOT_THERE);
        score("an lf isn't empty", "\n", "\n", 1000);
        Bench x = new Bench().files("0", "a", "", "0", "b", "T", "1", "x", "", "1", "y", "T");
        Bench.due("beside another", x.renames(0, 1), "1>1 1000");
        x.copy(0, 2);
        x.files("2", "a", "new");
        Bench.due("merge", x.merge(), 1);
        Bench.due("MERGING goes by it", x.all(), "a U 0 -1 2 blob 2 [new]; x - -1 -1 -1 blob 0 []; "
                + "y - -1 -1 -1 blob 1 [T]");
    }

    private static void goneAndCome() {
        Bench.sentence("GONE: PATHS of the first not in the second; COME: of the second not in the first");
        Bench x = new Bench().files("0", "a", "T", "0", "b", "U", "1", "a", "U", "1", "b", "T");
        Bench.due("PATHS of both", x.renames(0, 1), "");
        x.files("1", "c", "T");
        Bench.due("nothing is GONE", x.renames(0, 1), "");
        Bench.due("nothing has COME", x.renames(1, 0), "");
        Bench.due("to an empty MAP", x.renames(0, 2), "");
        Bench.due("from an empty MAP", x.renames(2, 0), "");
        Bench.due("from an empty MAP to an empty one", new Bench().renames(1, 2), "");
        x.files("0", "bb", "T");
        Bench.due("one of each", x.renames(0, 1), "2>2 1000");
        x.drop(1, "c");
        Bench.due("none has COME", x.renames(0, 1), "");
    }

    // The first GONE PATH is like the first COME one, the second the same as the third.
    private static Bench many(int gone, int come) {
        Bench x = new Bench();
        for (int k = 0; k < gone; k++) {
            x.put(0, "g" + (100 + k), k == 0 ? "a\nb\n" : k == 1 ? "S" : "");
        }
        for (int k = 0; k < come; k++) {
            x.put(1, "c" + (100 + k), k == 0 ? "a\nc\n" : k == 2 ? "S" : "");
        }
        return x;
    }

    private static void fifty() {
        Bench.sentence("0 .. if more than 50 PATHS are GONE or more than 50 COME");
        Bench.due("50 and 50", many(50, 50).renames(0, 1), "0>0 500, 1>2 1000");
        Bench.due("49 and 50", many(49, 50).renames(0, 1), "0>0 500, 1>2 1000");
        Bench.due("51 and 50", many(51, 50).renames(0, 1), "1>2 1000");
        Bench.due("50 and 51", many(50, 51).renames(0, 1), "1>2 1000");
        Bench.due("51 and 51", many(51, 51).renames(0, 1), "1>2 1000");
        Bench.due("51 and 3", many(51, 3).renames(0, 1), "1>2 1000");
        Bench.due("51 and 3, back", many(51, 3).renames(1, 0), "2>1 1000");
        Bench.due("3 and 51", many(3, 51).renames(0, 1), "1>2 1000");
        Bench.due("3 and 51, back", many(3, 51).renames(1, 0), "2>1 1000");
        Bench.due("50 and 3, back", many(50, 3).renames(1, 0), "0>0 500, 2>1 1000");
        Bench.due("2 and 100", many(2, 100).renames(0, 1), "1>2 1000");
        Bench x = many(50, 3).files("0", "same", "x", "1", "same", "x");
        Bench.due("51 PATHS, 50 GONE", x.renames(0, 1), "0>0 500, 1>2 1000");
        x.drop(1, "same");
        Bench.due("51 GONE", x.renames(0, 1), "1>2 1000");
        Bench y = many(51, 3).files("0", "g100", "T", "1", "c100", "T");
        Bench.due("51 GONE, the first is the first that has COME", y.renames(0, 1), "0>0 1000, 1>2 1000");
        Bench z = many(3, 51).files("0", "g102", "T", "1", "c150", "T");
        Bench.due("51 COME, the last is the last GONE", z.renames(0, 1), "1>2 1000, 2>50 1000");
        Bench v = many(51, 3).files("0", "g100", "T", "1", "c100", "T", "1", "c101", "T");
        Bench.due("51 GONE, two have COME", v.renames(0, 1), "0>0 1000, 1>2 1000");
        Bench w = many(51, 3).files("0", "g150", "T", "0", "a", "T", "1", "a", "T");
        Bench.due("51 GONE, a PATH of both isn't one that has COME", w.renamed(0, 1, 1, 0), Bench.NOT_THERE);
        Bench.due("51 GONE, a PATH of both isn't one that has COME", w.renames(0, 1), "2>3 1000");
        x.drop(0, "g149");
        Bench.due("50 GONE", x.renames(0, 1), "0>0 500, 1>2 1000");
    }

    private static void fiftyInMerging(int gone, String want) {
        Bench x = many(gone, 3);
        x.copy(0, 2);
        x.files("2", "g100", "b\n");
        Bench.due("merge with " + gone + " GONE", x.merge(), want.split(" U ", -1).length - 1);
        Bench.due("OUTCOMES with " + gone + " GONE", x.all(), want);
    }

    private static void fiftyInMergings() {
        Bench.sentence("a is p if ours has it, else what it's RENAMED to in ours, if it is");
        String rest = "c101 - -1 -1 -1 blob 2 []; c102 - -1 -1 -1 blob 1 [S]";
        fiftyInMerging(50, "c100 U 0 3 4 blob -1 [<<<<<<< ours\na\nc\n=======\nb\n>>>>>>> theirs\n]; " + rest);
        fiftyInMerging(51, "c100 - -1 -1 -1 blob 3 [a\nc\n]; " + rest + "; g100 U 0 -1 4 blob 4 [b\n]");
    }

    private static void leastOfManyPaths() {
        Bench.sentence("the greatest SCORE first, then the least GONE, then the least COME PATH");
        Bench x = new Bench();
        for (int k = 0; k < 51; k++) {
            x.put(0, "g" + (60 - k), k % 17 == 0 ? "T" : "");
        }
        x.files("1", "d", "T", "1", "b", "T", "1", "c", "U", "1", "a", "");
        Bench.due("with 51 GONE", x.renames(0, 1), "16>1 1000, 33>3 1000");
        x.drop(0, "g59");
        Bench.due("with 50 GONE", x.renames(0, 1), "16>1 1000, 33>3 1000");
    }

    private static void due(String what, String want, String... rows) {
        Bench.due(what, new Bench().files(rows).renames(0, 1), want);
    }

    private static void whichPairsFirst() {
        Bench.sentence("the greatest SCORE first, then the least GONE, then the least COME PATH");
        due("the SCORE before the least GONE", "1>0 1000", "0", "a", "1\n2\n", "0", "b", "1\n3\n", "1", "x", "1\n3\n");
        due("the SCORE before the least COME", "0>1 1000", "0", "a", "1\n2\n", "1", "x", "1\n3\n", "1", "y", "1\n2\n");
        due("by one only", "1>0 667", "0", "a", line('1', 666) + line('2', 334), "0", "b",
                line('1', 667) + line('2', 333), "1", "x", line('1', 667) + line('3', 333));
        due("the least GONE", "0>0 500", "0", "a", "1\n2\n", "0", "b", "1\n3\n", "1", "x", "1\n4\n");
        due("the least GONE, put last", "0>0 1000", "0", "b", "T", "0", "a", "T", "1", "x", "T");
        due("the least COME", "0>0 500", "0", "a", "1\n2\n", "1", "x", "1\n3\n", "1", "y", "1\n4\n");
        due("the least COME, put last", "0>0 1000", "0", "a", "T", "1", "y", "T", "1", "x", "T");
        due("the least GONE before the least COME", "0>1 500, 1>0 500", "0", "a", "1\n2\n", "0", "b", "3\n4\n",
                "1", "x", "3\n5\n", "1", "y", "1\n6\n");
        due("the same BLOB isn't before another of 1000", "0>0 1000, 1>1 1000", "0", "a", "1\n2\n", "0", "b", "2\n1\n",
                "1", "x", "2\n1\n", "1", "y", "1\n2\n");
    }

    private static void neitherIsInOne() {
        Bench.sentence("as long as neither is in one");
        due("what is left has too little in common", "0>0 750", "0", "a", "1\n2\n3\n4\n", "0", "b", "1\n2\n5\n6\n",
                "1", "x", "1\n2\n3\n5\n", "1", "y", "3\n4\n7\n8\n9\n");
        due("what is left is a pair", "0>0 750, 1>1 500", "0", "a", "1\n2\n3\n4\n", "0", "b", "1\n2\n5\n6\n",
                "1", "x", "1\n2\n3\n9\n", "1", "y", "1\n2\n7\n8\n");
        due("more GONE than COME", "0>0 1000, 1>1 1000", "0", "a", "T", "0", "b", "T", "0", "c", "T", "1", "x", "T",
                "1", "y", "T");
        due("more COME than GONE", "0>0 1000, 1>1 1000", "0", "a", "T", "0", "b", "T", "1", "x", "T", "1", "y", "T",
                "1", "z", "T");
    }

    private static void numbersAndOrder() {
        Bench.sentence("Number i of the RENAMES .., in order of their GONE PATHS: the number (from 0, in order) ..");
        Bench x = new Bench().files("0", "a", "same", "0", "b", "1\n2\n", "0", "c", "C", "0", "d", "none",
                "0", "e", "1\n3\n4\n");
        x.files("1", "C", "1\n3\n", "1", "a", "same", "1", "b1", "C", "1", "z", "2\n1\n");
        int[][] want = {{1, 3, 1000}, {2, 2, 1000}, {4, 0, 666}};
        for (int i = 0; i < 3; i++) {
            for (int what = 0; what <= 2; what++) {
                Bench.due("renamed " + i + " " + what, x.renamed(0, 1, i, what), want[i][what]);
            }
        }
        Bench.due("back", x.renames(1, 0), "0>4 666, 2>2 1000, 3>1 1000");
        for (int i : new int[] {Integer.MIN_VALUE, -2, -1, 3, 4, 5, 400, Integer.MAX_VALUE}) {
            for (int what = 0; what <= 2; what++) {
                Bench.due("renamed " + i + " " + what, x.renamed(0, 1, i, what), Bench.NOT_THERE);
            }
        }
    }

    private static void mapsAreDifferent() {
        Bench.sentence("from MAP a to MAP b (different)");
        Bench x = new Bench().files("0", "p", "T", "1", "q", "T", "2", "r", "T");
        for (int a = 0; a < 3; a++) {
            for (int b = 0; b < 3; b++) {
                for (int i = -1; i <= 1; i++) {
                    String due = a == b ? Bench.BAD : i == 0 ? "1000" : Bench.NOT_THERE;
                    Bench.due("renamed " + a + " " + b + " " + i, x.renamed(a, b, i, 2), due);
                }
            }
            for (int no : NO_MAPS) {
                Bench.due("renamed " + a + " " + no, x.renamed(a, no, 0, 0), Bench.BAD);
                Bench.due("renamed " + no + " " + a, x.renamed(no, a, 0, 0), Bench.BAD);
                Bench.due("renamed " + no + " " + a + " -1", x.renamed(no, a, -1, 0), Bench.BAD);
                Bench.due("renamed " + no + " " + no, x.renamed(no, no, 0, 0), Bench.BAD);
            }
        }
        for (int what : NO_MAPS) {
            Bench.due("what " + what, x.renamed(0, 1, 0, what), Bench.BAD);
            Bench.due("what " + what + ", not there", x.renamed(0, 1, 1, what), Bench.BAD);
            Bench.due("what " + what + ", below 0", x.renamed(0, 1, -1, what), Bench.BAD);
        }
    }

    private static void renamesFollowTheMaps() {
        Bench.sentence("RENAMES from a MAP to another");
        Bench x = new Bench().files("0", "p", "1\n2\n", "1", "q", "1\n2\n");
        Bench.due("renamed", x.renames(0, 1), "0>0 1000");
        x.files("1", "q", "1\n3\n");
        Bench.due("another BLOB", x.renames(0, 1), "0>0 500");
        x.files("1", "a", "1\n2\n");
        Bench.due("another PATH", x.renames(0, 1), "0>0 1000");
        x.files("1", "p", "x");
        Bench.due("it's there again", x.renames(0, 1), "");
        x.drop(1, "p");
        Bench.due("and gone", x.renames(0, 1), "0>0 1000");
        x.copy(1, 0);
        Bench.due("copy", x.renames(0, 1), "");
        Bench.due("MAPS stay", x.state(), "maps [0 1] [0 1] [], 3 blobs of 9, input 0, outcomes ");
    }

    public static void main(String[] args) {
        theSame();
        aRoughOne();
        cutOff();
        atLeast500();
        howOften();
        emptyTexts();
        goneAndCome();
        fifty();
        fiftyInMergings();
        leastOfManyPaths();
        whichPairsFirst();
        neitherIsInOne();
        numbersAndOrder();
        mapsAreDifferent();
        renamesFollowTheMaps();
        Bench.finishWithinMostCalls();
    }
}
