/** Promise 4. */
public final class PutTest {
    private static void blobsGetTheNextNumber() {
        Bench x = new Bench();
        Bench.due("put", x.put(0, "a", "one"), 0);
        Bench.due("put", x.put(1, "a", "two"), 1);
        Bench.due("put", x.put(2, "b/c", "one"), 0);
        Bench.due("put of an empty TEXT", x.put(0, "b", ""), 2);
        Bench.due("put in place", x.put(0, "a", "two"), 1);
        Bench.due("put of the empty TEXT", x.put(0, "c", ""), 2);
        Bench.due("PATHS", x.count(0), 3);
        Bench.due("BLOBS", x.count(3), 3);
        Bench.due("their BYTES", x.count(4), 6);
        Bench.due("the new BLOB", x.blob(0, 0), 1);
        Bench.due("put", x.put(0, "a", "onf"), 3);
        Bench.due("put", x.put(0, "a", "on"), 4);
    }

    private static void wrongCallsTakeTheArguments() {
        Bench x = new Bench();
        for (int map : new int[] {-1, 3, 7, Integer.MIN_VALUE, Integer.MAX_VALUE}) {
            Bench.due("put to MAP " + map, x.put(map, "a", "t"), Bench.BAD);
            Bench.due("ARGUMENTS", x.count(7), 0);
        }
        Bench.due("put of none", x.put(0), Bench.BAD);
        x.arg("a");
        Bench.due("put of one", x.put(0), Bench.BAD);
        Bench.due("ARGUMENTS", x.count(7), 0);
        x.arg("a").arg("b").arg("c");
        Bench.due("put of three", x.put(0), Bench.BAD);
        Bench.due("ARGUMENTS", x.count(7), 0);
        Bench.due("BLOBS", x.count(3), 0);
        Bench.due("PATHS", x.count(0), 0);
    }

    private static void due(String path, boolean right) {
        Bench x = new Bench();
        Bench.due("put at [" + path + "]", x.put(0, path, ""), right ? "0" : Bench.BAD);
        Bench.due("ARGUMENTS", x.count(7), 0);
        Bench.due("PATHS", x.count(0), right ? 1 : 0);
        Bench.due("BLOBS", x.count(3), right ? 1 : 0);
    }

    private static void pathsHaveAForm() {
        String n100 = "n".repeat(100);
        for (String s : new String[] {"!", "~", "a", "...", ".a", "a.", "..a", "a/...", "0/1", n100, "a/" + n100}) {
            due(s, true);
        }
        for (String s : new String[] {"", "/", ".", "..", "a/", "/a", "a//b", "a/.", "./a", "a/..", "../a", "a/../b",
            "a/./b", " ", "a b", "\u007f", "\u0080", "\u00ff", "a\n", "\0", "a/\u00e1", n100 + "n", "a/" + n100 + "n"}) {
            due(s, false);
        }
        due("a/".repeat(19) + "a", true);
        due("a/".repeat(20) + "a", false);
        due(n100 + "/" + n100 + "/" + "n".repeat(53), true);
        due(n100 + "/" + n100 + "/" + "n".repeat(54), false);
    }

    private static void noPathIsBeneathAnother() {
        Bench x = new Bench();
        x.files("0", "a/b", "t");
        Bench.due("above", x.put(0, "a", "new"), Bench.REFUSED);
        Bench.due("beneath", x.put(0, "a/b/c", "new"), Bench.REFUSED);
        Bench.due("far beneath", x.put(0, "a/b/c/d", "new"), Bench.REFUSED);
        Bench.due("no BLOB is made", x.count(3), 1);
        Bench.due("no PATH is made", x.count(0), 1);
        Bench.due("ARGUMENTS", x.count(7), 0);
        Bench.due("beside", x.put(0, "a/bc", "new"), 1);
        Bench.due("beside", x.put(0, "a/b!c", "t"), 0);
        Bench.due("beside", x.put(0, "a!", "t"), 0);
        Bench.due("beneath, with others between", x.put(0, "a/b/c", "t"), Bench.REFUSED);
        Bench.due("above, with others between", x.put(0, "a", "t"), Bench.REFUSED);
        Bench.due("in another MAP", x.put(1, "a", "t"), 0);
        Bench.due("in place", x.put(0, "a/b", "new"), 1);
        x.drop(0, "a/b");
        Bench.due("when it's gone", x.put(0, "a/b/c", "t"), 0);
    }

    private static void aTextMayBeTooLong() {
        Bench x = new Bench();
        Bench.due("4096 BYTES", x.put(0, "a", "x".repeat(4096)), 0);
        Bench.due("4097 BYTES", x.put(0, "b", "x".repeat(4097)), Bench.REFUSED);
        Bench.due("ARGUMENTS", x.count(7), 0);
        Bench.due("PATHS", x.count(0), 1);
        Bench.due("BYTES", x.count(4), 4096);
        Bench.due("a wrong PATH comes first", x.put(0, "/", "x".repeat(4097)), Bench.BAD);
    }

    // The limits below take more calls than the 512 that are promised; this program keeps them there, too.
    private static void blobsHaveLimits() {
        Bench x = new Bench();
        for (int k = 0; k < 8; k++) {
            Bench.due("put", x.put(0, "a", (char) ('a' + k) + "x".repeat(4094)), k);
        }
        Bench.due("BYTES", x.count(4), 8 * 4095);
        Bench.due("9 more", x.put(0, "a", "123456789"), Bench.REFUSED);
        Bench.due("8 more", x.put(0, "a", "12345678"), 8);
        Bench.due("an old one", x.put(0, "b", "a" + "x".repeat(4094)), 0);
        Bench.due("an empty one", x.put(0, "c", ""), 9);
        Bench.due("one more", x.put(0, "d", "1"), Bench.REFUSED);
        Bench.due("PATHS", x.count(0), 3);

        Bench y = new Bench();
        for (int k = 0; k < 500; k++) {
            Bench.due("put", y.put(0, "a", "" + k), k);
        }
        Bench.due("number 500", y.put(0, "a", "x"), Bench.REFUSED);
        Bench.due("an old one", y.put(0, "a", "7"), 7);
    }

    private static void pathsHaveLimits() {
        Bench x = new Bench();
        for (int k = 0; k < 400; k++) {
            Bench.due("put", x.put(0, "p" + k, "t"), 0);
        }
        Bench.due("PATH 401", x.put(0, "q", "u"), Bench.REFUSED);
        Bench.due("an old PATH", x.put(0, "p7", "u"), 1);
        Bench.due("the first PATH", x.put(0, "p0", "u"), 1);
        Bench.due("the last PATH", x.put(0, "p99", "u"), 1);
        Bench.due("another MAP", x.put(1, "q", "u"), 1);

        Bench y = new Bench();
        for (int k = 0; k < 40; k++) {
            y.files("2", "" + (char) ('A' + k) + "/" + "n".repeat(98) + "/" + "n".repeat(99) + "n", "t");
        }
        Bench.due("8040 BYTES", y.count(2), 40);
        Bench.due("153 more", y.put(2, "x".repeat(76) + "/" + "x".repeat(76), "t"), Bench.REFUSED);
        Bench.due("152 more", y.put(2, "x".repeat(76) + "/" + "x".repeat(75), "t"), 0);
        Bench.due("1 more", y.put(2, "y", "t"), Bench.REFUSED);
        y.drop(2, "x".repeat(76) + "/" + "x".repeat(75));
        Bench.due("1 more", y.put(2, "y", "t"), 0);
    }

    public static void main(String[] args) {
        blobsGetTheNextNumber();
        wrongCallsTakeTheArguments();
        pathsHaveAForm();
        noPathIsBeneathAnother();
        aTextMayBeTooLong();
        blobsHaveLimits();
        pathsHaveLimits();
        Bench.finish();
    }
}
