/** Edges of NAME, PATH, BENEATH and what FITS: promises 4 and 5, and the order of PATHS that promise 11 goes by. */
public final class PathEdgeTest {
    private static final String N100 = "n".repeat(100);

    private static String shown(String path) {
        StringBuilder s = new StringBuilder();
        for (char c : path.toCharArray()) {
            s.append(c > 32 && c < 127 ? "" + c : "<" + (int) c + ">");
        }
        return s.length() > 60 ? s.substring(0, 60) + ".. of " + path.length() : s.toString();
    }

    private static void right(String path) {
        Bench x = new Bench();
        Bench.due("drop of " + shown(path), x.drop(0, path), Bench.NOT_THERE);
        Bench.due("put at " + shown(path), x.put(0, path, "t"), 0);
        Bench.due("PATHS", x.count(0), 1);
        Bench.due("drop of " + shown(path), x.drop(0, path), Bench.VOID);
        Bench.due("PATHS", x.count(0), 0);
    }

    private static void wrong(String path) {
        Bench x = new Bench();
        Bench.due("drop of " + shown(path), x.drop(0, path), Bench.BAD);
        Bench.due("ARGUMENTS", x.count(7), 0);
        Bench.due("put at " + shown(path), x.put(0, path, "t"), Bench.BAD);
        Bench.due("ARGUMENTS", x.count(7), 0);
        Bench.due("PATHS", x.count(0), 0);
        Bench.due("BLOBS", x.count(3), 0);
    }

    private static void lengthOfNames() {
        Bench.sentence("NAME: 1 to 100 BYTES");
        for (String s : new String[] {"a", N100.substring(1), N100, "a/" + N100, N100 + "/a", "a/" + N100 + "/a",
            N100 + "/" + N100}) {
            right(s);
        }
        for (String s : new String[] {"", "/", "//", "/a", "a/", "a//a", "a/a/", "//a", N100 + "n", "a/" + N100 + "n",
            N100 + "n/a", "a/" + N100 + "n/a", N100 + "/" + N100 + "n", "n".repeat(255), "/" + N100, N100 + "/"}) {
            wrong(s);
        }
    }

    private static void bytesOfNames() {
        Bench.sentence("BYTES 33 .. 126 but \"/\"");
        for (int b = 0; b <= 255; b++) {
            boolean among = b >= 33 && b <= 126;
            String c = "" + (char) b;
            for (String s : new String[] {c, c + "a", "a" + c, "a" + c + "a", "a/" + c + "b"}) {
                boolean emptyName = s.startsWith("/") || s.endsWith("/") || s.contains("//");
                if (among && !s.equals(".") && !emptyName) {
                    right(s);
                } else {
                    wrong(s);
                }
            }
        }
    }

    private static void dots() {
        Bench.sentence("not \".\" nor \"..\"");
        for (String s : new String[] {".", "..", "./a", "../a", "a/.", "a/..", "a/./b", "a/../b", "./.", "../..",
            "./..", "a/b/.", "a/b/.."}) {
            wrong(s);
        }
        for (String s : new String[] {"...", "....", ".a", "a.", "..a", "a..", ".a.", "a.b", "a/...", ".../a", ".-",
            "-.", "a/.a", "a/..a", ".a/a", "..a/a"}) {
            right(s);
        }
    }

    private static void howManyNames() {
        Bench.sentence("PATH: 1 to 20 NAMES with \"/\" between");
        right("a/".repeat(18) + "a");
        right("a/".repeat(19) + "a");
        wrong("a/".repeat(20) + "a");
        wrong("a/".repeat(21) + "a");
        wrong("a/".repeat(127) + "a");
        right("abcdefghij0/".repeat(19) + "a");
        wrong("abcdefghij0/".repeat(20) + "a");
        wrong("a/".repeat(20));
    }

    private static String pathOf(int length) {
        StringBuilder s = new StringBuilder("n".repeat(length));
        for (int k = 100; k < length - 1; k += 101) {
            s.setCharAt(k, '/');
        }
        return s.toString();
    }

    private static void lengthOfPaths() {
        Bench.sentence("at most 255 BYTES");
        for (int length : new int[] {254, 255}) {
            right(pathOf(length));
        }
        for (int length : new int[] {256, 257, 300, 400}) {
            wrong(pathOf(length));
        }
        right("abcdefghijk/".repeat(19) + "n".repeat(27));
        wrong("abcdefghijk/".repeat(19) + "n".repeat(28));
    }

    private static void beneath() {
        Bench.sentence("It's BENEATH another PATH, if that and a \"/\" begin it");
        String[][] clash = {{"a", "a/b"}, {"a", "a/b/c"}, {"a/b", "a/b/c"}, {"a/b", "a/b/c/d/e"}, {"...", ".../a"},
            {N100, N100 + "/a"}, {"~", "~/~"}, {"a/a", "a/a/a"}};
        for (String[] c : clash) {
            clash(c[0], c[1]);
            clash(c[1], c[0]);
        }
        String[][] apart = {{"a", "ab"}, {"a", "a!"}, {"a", "a."}, {"a", "a0"}, {"a/b", "a/bc"}, {"a/b", "a/b!c"},
            {"a/b", "a/c"}, {"a/b/c", "a/bc"}, {"a", "b/a"}, {"a/b", "b"}, {"a", "ab/c"}, {"a", "A/b"}, {"b", "a/b"},
            {"a/a", "a/ab/a"}, {"a", "aa/a"}, {"a/b/c", "a/b.c"}, {"ab/c", "a"}, {"a/b", "b/b"}};
        for (String[] a : apart) {
            apart(a[0], a[1]);
            apart(a[1], a[0]);
        }
    }

    private static void clash(String first, String second) {
        Bench x = new Bench();
        Bench.due("put at " + first, x.put(0, first, "1"), 0);
        Bench.due("put at " + second + " beside " + first, x.put(0, second, "2"), Bench.REFUSED);
        Bench.due("ARGUMENTS", x.count(7), 0);
        Bench.due("nothing is changed", x.state(), "maps [0] [] [], 1 blobs of 1, input 0, outcomes ");
        Bench.due("not even of a known BLOB", x.put(0, second, "1"), Bench.REFUSED);
        Bench.due("in place of itself", x.put(0, first, "2"), 1);
        Bench.due("in another MAP", x.put(1, second, "3"), 2);
        Bench.due("drop of what isn't there", x.drop(0, second), Bench.NOT_THERE);
        Bench.due("drop", x.drop(0, first), Bench.VOID);
        Bench.due("then it FITS", x.put(0, second, "1"), 0);
        Bench.due("and the other doesn't", x.put(0, first, "1"), Bench.REFUSED);
        Bench.due("copy", x.copy(0, 2), Bench.VOID);
        Bench.due("the copy knows it", x.put(2, first, "1"), Bench.REFUSED);
        Bench.due("PATHS", x.count(0) + " " + x.count(1) + " " + x.count(2), "1 1 1");
    }

    private static void apart(String first, String second) {
        Bench x = new Bench();
        Bench.due("put at " + first, x.put(2, first, "1"), 0);
        Bench.due("put at " + second + " beside " + first, x.put(2, second, "2"), 1);
        Bench.due("PATHS", x.count(2), 2);
    }

    private static void beneathWithOthersBetween() {
        Bench.sentence("none BENEATH another");
        Bench x = new Bench().files("0", "a!", "t", "0", "a-b", "t", "0", "a.c", "t", "0", "a/m/n", "t", "0", "a0", "t",
                "0", "ab", "t");
        Bench.due("above, others between", x.put(0, "a", "u"), Bench.REFUSED);
        Bench.due("above, one NAME deeper", x.put(0, "a/m", "u"), Bench.REFUSED);
        Bench.due("beneath", x.put(0, "a/m/n/o", "u"), Bench.REFUSED);
        Bench.due("beneath another", x.put(0, "a-b/c", "u"), Bench.REFUSED);
        Bench.due("beside", x.put(0, "a/n", "t"), 0);
        Bench.due("beside", x.put(0, "a/m/m", "t"), 0);
        Bench y = new Bench().files("1", "a", "t", "1", "a!", "t", "1", "a-b", "t", "1", "a.c", "t", "1", "a0", "t");
        Bench.due("beneath, others between", y.put(1, "a/m", "u"), Bench.REFUSED);
        Bench.due("beneath, others between", y.put(1, "a/m/n/o", "u"), Bench.REFUSED);
        Bench.due("no BLOB is made", y.count(3), 1);
    }

    // 400 PATHS take 1600 calls: all that 512 can reach is this side of it.
    private static void asManyPathsAsCanBe() {
        Bench.sentence("PATHS FIT if they are at most 400");
        Bench x = new Bench();
        for (int k = 0; k < 127; k++) {
            Bench.due("put " + k, x.put(k % 2, "p" + k, ""), 0);
        }
        Bench.due("PATHS", x.count(0), 64);
        Bench.due("PATHS", x.count(1), 63);
        Bench.due("merge", x.merge(), 0);
        Bench y = new Bench();
        for (int k = 0; k < 127; k++) {
            Bench.due("put " + k, y.put(0, "p" + k, ""), 0);
        }
        Bench.due("PATHS", y.count(0), 127);
        Bench.due("copy", y.copy(0, 2), Bench.VOID);
        Bench.due("PATHS", y.count(2), 127);
        Bench.due("the last one", y.blob(2, 126), 0);
    }

    private static String longPath(int k, int length) {
        return (char) ('A' + k) + pathOf(length).substring(1);
    }

    // 8190 are the most that 512 calls can put, so 8193 is out of reach.
    private static void asLongPathsAsCanBe() {
        Bench.sentence("together at most 8192 BYTES");
        Bench x = new Bench();
        for (int k = 0; k < 34; k++) {
            Bench.due("put " + k, x.put(2, longPath(k, k < 32 ? 240 : 255), ""), 0);
        }
        Bench.due("calls", x.calls(), Bench.MOST_CALLS);
        Bench y = new Bench();
        for (int k = 0; k < 33; k++) {
            Bench.due("put " + k, y.put(1 + k % 2, longPath(k, 240), ""), 0);
        }
        Bench.due("merge to 7920 BYTES", y.merge(), 0);
        Bench.due("OUTCOMES", y.count(5), 33);
        Bench.due("the last PATH", y.outcome(32, 0), 240);
        Bench.due("its first BYTE", y.letter(32, 0, 0), 'A' + 32);
        Bench.due("its last BYTE", y.letter(32, 0, 239), (int) 'n');
    }

    private static void orderOfPaths() {
        Bench.sentence("in order by the first BYTE that differs, a beginning before what it begins");
        String[] order = {"!", "!!", "-", "0", "9", "A", "B", "a!", "a!!", "a!0", "a.", "a/!", "a/b", "a/b!", "a/b0",
            "a0", "aa", "aa0", "b", "~", "~!", "~~"};
        for (int step : new int[] {1, 5, 7, 13, 21}) {
            Bench x = new Bench();
            for (int k = 0; k < order.length; k++) {
                int at = k * step % order.length;
                Bench.due("put at " + order[at], x.put(1, order[at], "text " + at), k);
            }
            for (int i = 0; i < order.length; i++) {
                for (int k = 0; k < order.length; k++) {
                    if (k * step % order.length == i) {
                        Bench.due("PATH " + i, x.blob(1, i), k);
                    }
                }
            }
            Bench.due("merge", x.merge(), 0);
            for (int i = 0; i < order.length; i++) {
                Bench.due("OUTCOME " + i, x.pathOf(i), order[i]);
            }
        }
    }

    private static void dropAtTheEdges() {
        Bench.sentence("It goes from the MAP. It isn't in it: not there");
        String[] paths = {"a", "b", "bb", "c/d", "c/e"};
        for (String gone : paths) {
            Bench x = new Bench();
            StringBuilder left = new StringBuilder();
            for (int k = 0; k < paths.length; k++) {
                x.put(0, paths[k], "text " + k);
                left.append(paths[k].equals(gone) ? "" : " " + k);
            }
            x.copy(0, 1);
            for (String s : new String[] {"A", "aa", "a/b", "b!", "bbb", "c", "c/d/e", "c/c", "d", "~"}) {
                Bench.due("drop of " + s, x.drop(0, s), Bench.NOT_THERE);
                Bench.due("ARGUMENTS", x.count(7), 0);
            }
            Bench.due("all are there", x.map(0), "0 1 2 3 4");
            Bench.due("drop of " + gone, x.drop(0, gone), Bench.VOID);
            Bench.due("the others are there", x.map(0), left.substring(1));
            Bench.due("again", x.drop(0, gone), Bench.NOT_THERE);
            Bench.due("the others are there", x.map(0), left.substring(1));
            Bench.due("another MAP", x.map(1), "0 1 2 3 4");
            Bench.due("an empty MAP", x.drop(2, gone), Bench.NOT_THERE);
        }
    }

    public static void main(String[] args) {
        lengthOfNames();
        bytesOfNames();
        dots();
        howManyNames();
        lengthOfPaths();
        beneath();
        beneathWithOthersBetween();
        asManyPathsAsCanBe();
        asLongPathsAsCanBe();
        orderOfPaths();
        dropAtTheEdges();
        Bench.finishWithinMostCalls();
    }
}
