/** Promises 2 and 3. */
public final class InputTest {
    private static void feedTakesTheHighestByteFirst() {
        Bench x = new Bench();
        x.arg("p");
        Bench.due("feed", x.feed(0x01020304, 0xfffefdfc, 0x7f800a00, 0x20212223, 0x30313233), Bench.VOID);
        Bench.due("count(6)", x.count(6), 20);
        Bench.due("end", x.end(0), 2);
        Bench.due("count(6)", x.count(6), 0);
        x.put(1);
        x.merge();
        String want = "\1\2\3\4\u00ff\u00fe\u00fd\u00fc\u007f\u0080\n\0 !\"#0123";
        Bench.due("the BYTES", x.textOf(0), want);
    }

    private static void endCutsTheLastBytes() {
        Bench x = new Bench();
        x.arg("p");
        x.type("abcdefghijklmnopqrstuvwxyzabcdefghijklmn");
        Bench.due("count(6)", x.count(6), 40);
        Bench.due("end", x.end(19), 2);
        x.put(1);
        x.merge();
        Bench.due("what is left", x.textOf(0), "abcdefghijklmnopqrstu");
    }

    private static void endRefusesWrongNumbers() {
        Bench x = new Bench();
        Bench.due("end(1) of nothing", x.end(1), Bench.BAD);
        Bench.due("end(-1)", x.end(-1), Bench.BAD);
        Bench.due("no ARGUMENT", x.count(7), 0);
        x.type("0123456789");
        for (int n : new int[] {-1, 20, 21, Integer.MAX_VALUE, Integer.MIN_VALUE}) {
            Bench.due("end(" + n + ")", x.end(n), Bench.BAD);
        }
        Bench.due("INPUT stays", x.count(6), 20);
        Bench.due("no ARGUMENT", x.count(7), 0);
        Bench.due("end(0)", x.end(0), 1);
        Bench.due("end(0) of nothing", x.end(0), 2);
        Bench.due("end(1) of nothing", x.end(1), Bench.BAD);
        Bench.due("ARGUMENTS stay", x.count(7), 2);
    }

    private static void fourArgumentsAtMost() {
        Bench x = new Bench();
        for (int k = 0; k < 4; k++) {
            x.type("abcdefghijklmnopqrst");
            Bench.due("end", x.end(k), k + 1);
        }
        x.type("12345678901234567890");
        Bench.due("the fifth end", x.end(10), 4);
        Bench.due("count(7)", x.count(7), 4);
        Bench.due("put of four", x.put(0), Bench.BAD);
        Bench.due("all are taken", x.count(7), 0);
        x.arg("1").arg("2").arg("3").arg("4").arg("5").arg("6");
        Bench.due("count(7)", x.count(7), 4);
        Bench.due("put of four", x.put(0), Bench.BAD);
    }

    private static void inputOutlivesTakenArguments() {
        Bench x = new Bench();
        x.arg("path");
        x.arg("text");
        x.type("0123456789abcdefghij");
        Bench.due("put", x.put(0), 0);
        Bench.due("INPUT stays", x.count(6), 20);
        Bench.due("ARGUMENTS go", x.count(7), 0);
        Bench.due("end", x.end(4), 1);
        x.type("klmnopqrstuvwxyzKLMN");
        x.end(2);
        Bench.due("put", x.put(1), 1);
        x.merge();
        Bench.due("the PATH", x.pathOf(0), "0123456789abcdef");
        Bench.due("the TEXT", x.textOf(0), "klmnopqrstuvwxyzKL");
        x.type("0123456789abcdefghij");
        Bench.due("merge takes none", x.merge(), 0);
        Bench.due("INPUT stays", x.count(6), 20);
    }

    // It takes more calls than the 512 that are promised; this program keeps the limit there, too.
    private static void inputHasALimit() {
        Bench x = new Bench();
        for (int k = 0; k < 819; k++) {
            x.feed(k, k, k, k, k);
        }
        Bench.due("count(6)", x.count(6), 16380);
        Bench.due("feed", x.feed(1, 2, 3, 4, 5), Bench.REFUSED);
        Bench.due("count(6)", x.count(6), 16380);
        Bench.due("end", x.end(16), 1);
        Bench.due("feed with an ARGUMENT", x.feed(1, 2, 3, 4, 5), Bench.VOID);
        Bench.due("feed with an ARGUMENT", x.feed(1, 2, 3, 4, 5), Bench.REFUSED);
        Bench.due("count(6)", x.count(6), 20);
        for (int k = 2; k <= 4; k++) {
            Bench.due("end", x.end(0), k);
        }
        Bench.due("feed", x.feed(1, 2, 3, 4, 5), Bench.REFUSED);
        Bench.due("the first one goes", x.end(0), 4);
        Bench.due("feed", x.feed(1, 2, 3, 4, 5), Bench.VOID);
        Bench.due("copy takes them", x.copy(0, 0), Bench.BAD);
        Bench.due("count(6)", x.count(6), 20);

        Bench y = new Bench();
        for (int k = 0; k < 819; k++) {
            y.feed(k, k, k, k, k);
        }
        y.end(15);
        Bench.due("feed to 16385", y.feed(1, 2, 3, 4, 5), Bench.REFUSED);
    }

    private static int roomLeft(Bench x) {
        int before = x.count(6);
        for (int k = 0; k < 1000 && x.feed(0, 0, 0, 0, 0).equals(Bench.VOID); k++) {
            continue;
        }
        return x.count(6) - before;
    }

    private static void theFirstArgumentsRoomComesBack() {
        int[] sizes = {1000, 2000, 400, 3000, 500, 600, 700};
        for (int n = 1; n <= sizes.length; n++) {
            Bench x = new Bench();
            int held = 0;
            for (int k = 0; k < n; k++) {
                x.arg("x".repeat(sizes[k]));
                held += k >= n - 4 ? sizes[k] : 0;
            }
            Bench.due("room behind " + n, roomLeft(x), (16384 - held) / 20 * 20);
        }
    }

    public static void main(String[] args) {
        feedTakesTheHighestByteFirst();
        endCutsTheLastBytes();
        endRefusesWrongNumbers();
        fourArgumentsAtMost();
        inputOutlivesTakenArguments();
        inputHasALimit();
        theFirstArgumentsRoomComesBack();
        Bench.finish();
    }
}
