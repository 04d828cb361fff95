/** Promises 5 and 6. */
public final class DropAndCopyTest {
    private static void dropTakesAPathAway() {
        Bench x = new Bench();
        x.files("0", "a", "1", "0", "b", "2", "0", "c/d", "3", "1", "b", "2");
        Bench.due("drop", x.drop(0, "b"), Bench.VOID);
        Bench.due("PATHS", x.count(0), 2);
        Bench.due("the PATH before it", x.blob(0, 0), 0);
        Bench.due("the PATH behind it", x.blob(0, 1), 2);
        Bench.due("another MAP", x.count(1), 1);
        Bench.due("BLOBS stay", x.count(3), 3);
        Bench.due("again", x.drop(0, "b"), Bench.NOT_THERE);
        Bench.due("ARGUMENTS", x.count(7), 0);
        Bench.due("only a beginning", x.drop(0, "c"), Bench.NOT_THERE);
        Bench.due("beneath", x.drop(0, "a/b"), Bench.NOT_THERE);
        Bench.due("PATHS", x.count(0), 2);
        Bench.due("the last one", x.drop(0, "c/d"), Bench.VOID);
        Bench.due("the first one", x.drop(0, "a"), Bench.VOID);
        Bench.due("PATHS", x.count(0), 0);
        Bench.due("the old BLOB", x.put(0, "z", "3"), 2);
    }

    private static void wrongDrops() {
        Bench x = new Bench();
        x.files("0", "a", "1");
        for (int map : new int[] {-1, 3, Integer.MIN_VALUE}) {
            Bench.due("drop from MAP " + map, x.drop(map, "a"), Bench.BAD);
            Bench.due("ARGUMENTS", x.count(7), 0);
        }
        Bench.due("drop of none", x.drop(0), Bench.BAD);
        x.arg("a").arg("a");
        Bench.due("drop of two", x.drop(0), Bench.BAD);
        Bench.due("ARGUMENTS", x.count(7), 0);
        for (String s : new String[] {"", ".", "a/", "/", "a b"}) {
            Bench.due("drop of [" + s + "]", x.drop(0, s), Bench.BAD);
            Bench.due("ARGUMENTS", x.count(7), 0);
        }
        Bench.due("PATHS", x.count(0), 1);
    }

    private static void copyMakesAMapLikeAnother() {
        Bench x = new Bench();
        x.files("0", "a", "1", "0", "b", "2", "1", "x", "3", "1", "y", "4", "1", "z", "5");
        Bench.due("copy", x.copy(0, 1), Bench.VOID);
        Bench.due("PATHS", x.count(1), 2);
        Bench.due("BLOB", x.blob(1, 0), 0);
        Bench.due("BLOB", x.blob(1, 1), 1);
        Bench.due("BLOB", x.blob(1, 2), Bench.NOT_THERE);
        x.files("1", "a", "6");
        Bench.due("they are apart", x.blob(0, 0), 0);
        Bench.due("they are apart", x.blob(1, 0), 5);
        Bench.due("copy to itself", x.copy(1, 1), Bench.VOID);
        Bench.due("BLOB", x.blob(1, 0), 5);
        Bench.due("copy of an empty one", x.copy(2, 0), Bench.VOID);
        Bench.due("PATHS", x.count(0), 0);
        Bench.due("drop", x.drop(0, "a"), Bench.NOT_THERE);
        Bench.due("put", x.put(0, "a/b", "1"), 0);
        Bench.due("the PATHS go along", x.copy(1, 2), Bench.VOID);
        Bench.due("drop", x.drop(2, "b"), Bench.VOID);
        Bench.due("BLOBS stay", x.count(3), 6);
    }

    private static void wrongCopies() {
        Bench x = new Bench();
        x.files("0", "a", "1");
        int[][] wrong = {{-1, 0}, {0, -1}, {3, 0}, {0, 3}, {Integer.MAX_VALUE, 1}, {1, Integer.MIN_VALUE}};
        for (int[] w : wrong) {
            Bench.due("copy " + w[0] + " " + w[1], x.copy(w[0], w[1]), Bench.BAD);
        }
        x.arg("a");
        Bench.due("copy with an ARGUMENT", x.copy(0, 1), Bench.BAD);
        Bench.due("ARGUMENTS", x.count(7), 0);
        Bench.due("nothing is copied", x.count(1), 0);
        x.arg("");
        Bench.due("copy with an empty ARGUMENT", x.copy(0, 1), Bench.BAD);
        Bench.due("copy", x.copy(0, 1), Bench.VOID);
        Bench.due("PATHS", x.count(1), 1);
    }

    public static void main(String[] args) {
        dropTakesAPathAway();
        wrongDrops();
        copyMakesAMapLikeAnother();
        wrongCopies();
        Bench.finish();
    }
}
