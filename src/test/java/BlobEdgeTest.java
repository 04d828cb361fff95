/** Edges of BLOBS, LINES and ROUGH: promise 4, and what promises 7 and 8 make of ROUGH TEXTS. */
public final class BlobEdgeTest {
    private static void numbersStay() {
        Bench.sentence("each gets the next number (0, 1, ..) when it's put first, and stays, whatever MAPS have");
        Bench x = new Bench();
        Bench.due("the first", x.put(0, "a", "one"), 0);
        Bench.due("in its place", x.put(0, "a", "two"), 1);
        Bench.due("in no MAP, but known", x.put(1, "b", "one"), 0);
        Bench.due("drop", x.drop(1, "b"), Bench.VOID);
        Bench.due("drop", x.drop(0, "a"), Bench.VOID);
        Bench.due("BLOBS", x.count(3), 2);
        Bench.due("their BYTES", x.count(4), 6);
        Bench.due("the next number", x.put(2, "c", "three"), 2);
        Bench.due("copy over it", x.copy(0, 2), Bench.VOID);
        Bench.due("BLOBS", x.count(3), 3);
        Bench.due("known", x.put(2, "d", "three"), 2);
        Bench.due("known", x.put(0, "d", "two"), 1);
        Bench.due("MERGING", x.merge(), 1);
        Bench.due("BLOBS", x.count(3), 3);
        Bench.due("their BYTES", x.count(4), 11);
        Bench.due("the next number", x.put(2, "e", "four"), 3);
    }

    private static void differentTexts() {
        Bench.sentence("BLOBS: .. different TEXTS");
        String half = "0123456789abcdefghij".repeat(3);
        String[] texts = {"", "\0", "\0\0", "\n", "\n\n", "a", "a\n", "a\0", "A", "\u007f", "\u0080", "\u00ff", "ab",
            "ba", "abc", half, half + "0", "0" + half, half.substring(1), half.substring(0, 59) + "J",
            "O" + half.substring(1)};
        Bench x = new Bench();
        int bytes = 0;
        for (int round = 0; round < 2; round++) {
            for (int k = 0; k < texts.length; k++) {
                Bench.due("TEXT " + k, x.put(round, "p" + k, texts[k]), k);
                bytes += round == 0 ? texts[k].length() : 0;
            }
            Bench.due("BLOBS", x.count(3), texts.length);
            Bench.due("their BYTES", x.count(4), bytes);
        }
    }

    private static void theLongestText() {
        Bench.sentence("of at most 4096 BYTES each");
        for (int length : new int[] {4095, 4096}) {
            Bench x = new Bench();
            Bench.due("put of " + length, x.put(2, "p", "x".repeat(length)), 0);
            Bench.due("BYTES", x.count(4), length);
            Bench.due("put of " + length + " again", x.put(1, "q", "x".repeat(length)), 0);
            Bench.due("BYTES", x.count(4), length);
            Bench.due("BLOBS", x.count(3), 1);
            Bench.due("merge", x.merge(), 0);
            Bench.due("TEXT", x.outcome(0, 2), length);
            Bench.due("its last BYTE", x.letter(0, 1, length - 1), (int) 'x');
            Bench.due("behind it", x.letter(0, 1, length), Bench.NOT_THERE);
        }
        for (int length : new int[] {4097, 4100, 8192}) {
            Bench x = new Bench().files("0", "p", "old");
            Bench.due("put of " + length + " in place", x.put(0, "p", "x".repeat(length)), Bench.REFUSED);
            Bench.due("ARGUMENTS", x.count(7), 0);
            Bench.due("nothing is changed", x.state(), "maps [0] [] [], 1 blobs of 3, input 0, outcomes ");
            Bench.due("the next number", x.put(0, "q", "new"), 1);
        }
        Bench y = new Bench();
        Bench.due("put at a new PATH", y.put(0, "p", "x".repeat(4097)), Bench.REFUSED);
        Bench.due("PATHS", y.count(0), 0);
        Bench.due("nor is it there", y.drop(0, "p"), Bench.NOT_THERE);
        Bench.due("what was beneath FITS", y.put(0, "p/q", "x".repeat(4096)), 0);
    }

    private static void anyLengthIsOfRightForm() {
        Bench.sentence("a TEXT of any length is one of right form");
        Bench x = new Bench();
        Bench.due("put of 10000", x.put(0, "p", "x".repeat(10000)), Bench.REFUSED);
        Bench.due("put of none", x.put(0, "p", ""), 0);
        Bench.due("BYTES", x.count(4), 0);
        Bench y = new Bench();
        Bench.due("a wrong PATH is Bad", y.put(0, "", "x".repeat(4097)), Bench.BAD);
        Bench.due("a wrong MAP is Bad", y.put(3, "p", "x".repeat(4097)), Bench.BAD);
        Bench z = new Bench().arg("p").arg("x".repeat(4097)).arg("");
        Bench.due("three ARGUMENTS are Bad", z.put(0), Bench.BAD);
        z.arg("x".repeat(4097)).arg("p");
        Bench.due("a PATH as long is Bad", z.put(0), Bench.BAD);
        Bench.due("BLOBS", z.count(3), 0);
    }

    // 500 take 2500 calls: all that 512 can reach is this side of it.
    private static void asManyAsCanBe() {
        Bench.sentence("at most 500 different TEXTS");
        Bench x = new Bench();
        for (int k = 0; k < 102; k++) {
            Bench.due("put " + k, x.put(0, "p", "text " + k), k);
        }
        Bench.due("BLOBS", x.count(3), 102);
        Bench.due("BYTES", x.count(4), 10 * 6 + 90 * 7 + 2 * 8);
    }

    // 32768 take 1639 calls: all that 512 can reach is this side of it.
    private static void asLongAsCanBe() {
        Bench.sentence("32768 together");
        Bench x = new Bench();
        Bench.due("put", x.put(0, "a", "x".repeat(4096)), 0);
        Bench.due("put", x.put(0, "b", "y".repeat(4096)), 1);
        Bench.due("put", x.put(0, "c", "z".repeat(1600)), 2);
        Bench.due("BYTES", x.count(4), 9792);
        x.copy(0, 1);
        x.copy(0, 2);
        x.merge();
        Bench.due("the last BYTE", x.letter(2, 1, 1599), (int) 'z');
    }

    private static String clash(String ours, String theirs) {
        return "<<<<<<< ours\n" + ours + "=======\n" + theirs + ">>>>>>> theirs\n";
    }

    private static String closed(String text) {
        return text.endsWith("\n") ? text : text + "\n";
    }

    private static String merged(String base, String ours, String theirs) {
        Bench x = new Bench().files("0", "p", base, "1", "p", ours, "2", "p", theirs);
        x.merge();
        return x.outcome(0, 2);
    }

    private static String score(String x, String y) {
        return new Bench().files("0", "p", x, "1", "q", y).renamed(0, 1, 0, 2);
    }

    /** A TEXT, and what is common to it and to one that is like it and never ROUGH. */
    private static void rough(boolean rough, String text, String alike, int score) {
        String what = "TEXT of " + text.length() + " ";
        String none = Bench.NOT_THERE;
        Bench.due(what + "as ours", merged("1\n", text, "2\n"),
                rough ? text.length() : clash(closed(text), "2\n").length());
        Bench.due(what + "as theirs", merged("1\n", "2\n", text), rough ? 2 : clash("2\n", closed(text)).length());
        Bench.due(what + "as base", merged(text, "1\n", "2\n"), rough ? 2 : clash("1\n", "2\n").length());
        Bench.due(what + "SCORE", score(text, alike), rough ? none : score);
        Bench.due(what + "SCORE back", score(alike, text), rough ? none : score);
        Bench.due(what + "SCORE of the same", score(text, text), 1000);
    }

    private static void aByteZero() {
        Bench.sentence("A TEXT is ROUGH if there's a BYTE 0 in it");
        String some = "ab\ncd\nef\n";
        rough(true, "\0" + some, some, 0);
        rough(true, "\0\n" + some, some, 0);
        rough(true, "ab\nc\0d\nef\n", some, 0);
        rough(true, "ab\ncd\nef\0\n", some, 0);
        rough(true, "ab\ncd\nef\n\0", some, 0);
        rough(true, "ab\ncd\n\0", some, 0);
        rough(false, "ab\ncd\n\1", some, 666);
        rough(false, "ab\ncd\nef\n\u00ff", some, 900);
        rough(false, "ab\ncd\nef\n0", some, 900);
        rough(false, "\u0080\n" + some, some, 818);
        rough(false, "\1\n" + some, some, 818);
        rough(false, "ab\ncd\nef", some, 666);
    }

    private static void manyLines() {
        Bench.sentence("or it has more than 200 LINES");
        rough(false, "\n".repeat(199), "\n".repeat(150), 753);
        rough(false, "\n".repeat(200), "\n".repeat(150), 750);
        rough(true, "\n".repeat(201), "\n".repeat(150), 0);
        rough(true, "\n".repeat(202), "\n".repeat(150), 0);
        rough(false, "\n".repeat(199) + "x", "\n".repeat(150), 750);
        rough(true, "\n".repeat(200) + "x", "\n".repeat(150), 0);
        rough(false, "ab\n".repeat(200), "ab\n".repeat(199), 995);
        rough(true, "ab\n".repeat(201), "ab\n".repeat(200), 0);
        rough(false, "x".repeat(1000) + "\n", "x".repeat(1000) + "\ny", 999);
    }

    private static void whereLinesAreCut() {
        Bench.sentence("LINES of a TEXT: it's cut behind each lf");
        Bench.due("of one LINE", score("ab\n", "ab\nc"), 750);
        Bench.due("the lf is the LINE's", score("ab\nc", "ab\nd"), 750);
        Bench.due("with and without lf", score("ab", "ab\n"), Bench.NOT_THERE);
        Bench.due("a last LINE without lf", score("x\nab", "y\nab"), 500);
        Bench.due("not the same with lf", score("xyz\nab", "xyz\nab\n"), 571);
        Bench.due("an empty LINE", score("\n\nab\n", "\n\n\n\n"), Bench.NOT_THERE);
        Bench.due("empty LINES", score("\n\n\nab", "\n\n\ncd"), 600);
        Bench.due("a carriage return is a BYTE", score("a\rb\r", "a\rc\r"), Bench.NOT_THERE);
        Bench.due("high BYTES", score("\u00ff\n\u008a\n", "\u00ff\n\u000b\n"), 500);
    }

    public static void main(String[] args) {
        numbersStay();
        differentTexts();
        theLongestText();
        anyLengthIsOfRightForm();
        asManyAsCanBe();
        asLongAsCanBe();
        aByteZero();
        manyLines();
        whereLinesAreCut();
        Bench.finishWithinMostCalls();
    }
}
