/** Edges of INPUT and ARGUMENTS: promises 2 and 3. */
public final class InputEdgeTest {
    private static final String TWENTY = "abcdefghijklmnopqrst";
    private static final int[] FAR = {Integer.MIN_VALUE, -20, -1, 20, 21, 40, 256, Integer.MAX_VALUE};

    private static void theLeastAndGreatestBytes() {
        Bench.sentence("BYTES are 0 .. 255");
        Bench x = new Bench().arg("p");
        Bench.due("feed", x.feed(0, -1, Integer.MIN_VALUE, Integer.MAX_VALUE, 255), Bench.VOID);
        Bench.due("end", x.end(0), 2);
        Bench.due("put", x.put(1), 0);
        x.merge();
        int[] want = {0, 0, 0, 0, 255, 255, 255, 255, 128, 0, 0, 0, 127, 255, 255, 255, 0, 0, 0, 255};
        for (int k = 0; k < want.length; k++) {
            Bench.due("BYTE " + k, x.letter(0, 1, k), want[k]);
        }
        Bench.due("BYTE 20", x.letter(0, 1, 20), Bench.NOT_THERE);
    }

    private static void theHighestByteFirst() {
        Bench.sentence("Adds the twenty BYTES of the numbers, of each the highest first");
        Bench x = new Bench().arg("p");
        x.feed(0x01020304, 0x05060708, 0x090b0c0d, 0x0e0f1011, 0x12131415);
        Bench.due("INPUT", x.count(6), 20);
        x.feed(0x61626364, 0, 0, 0, 0x65666768);
        Bench.due("INPUT", x.count(6), 40);
        x.end(0);
        x.put(1);
        x.merge();
        Bench.due("TEXT", x.textOf(0), "\1\2\3\4\5\6\7\b\t\u000b\f\r\u000e\u000f\u0010\u0011\u0012\u0013\u0014\u0015"
                + "abcd" + "\0".repeat(12) + "efgh");
    }

    // 16384 takes 820 calls: all that 512 can reach is this side of it.
    private static void inputAsLongAsCanBe() {
        Bench.sentence("INPUT .., ARGUMENTS .., all together at most 16384 BYTES");
        Bench x = new Bench();
        for (int k = 1; k <= 510; k++) {
            Bench.due("feed " + k, x.feed(k, k, k, k, k), Bench.VOID);
        }
        Bench.due("INPUT", x.count(6), 10200);
        Bench.due("end", x.end(0), 1);
        Bench y = new Bench();
        for (int part = 1; part <= 4; part++) {
            for (int k = 0; k < 100; k++) {
                Bench.due("feed", y.feed(k, k, k, k, k), Bench.VOID);
            }
            Bench.due("INPUT", y.count(6), 2000);
            Bench.due("end", y.end(0), part);
        }
        for (int k = 0; k < 100; k++) {
            Bench.due("feed with ARGUMENTS", y.feed(k, k, k, k, k), Bench.VOID);
        }
        Bench.due("INPUT", y.count(6), 2000);
        Bench.due("ARGUMENTS", y.count(7), 4);
    }

    private static void howManyBytesGo() {
        Bench.sentence("The last n BYTES of INPUT (0 .. 19, ..) go");
        Bench x = new Bench();
        for (int n = 0; n <= 19; n++) {
            x.arg("p");
            x.type(TWENTY);
            Bench.due("end(" + n + ")", x.end(n), 2);
            Bench.due("put", x.put(1), n);
            x.merge();
            Bench.due("length", x.outcome(0, 2), 20 - n);
            Bench.due("first BYTE", x.letter(0, 1, 0), (int) 'a');
            Bench.due("last BYTE", x.letter(0, 1, 19 - n), 'a' + 19 - n);
            Bench.due("behind it", x.letter(0, 1, 20 - n), Bench.NOT_THERE);
        }
        Bench y = new Bench();
        for (int n : FAR) {
            Bench.due("end(" + n + ") of nothing", y.end(n), Bench.BAD);
        }
        y.type(TWENTY + TWENTY);
        for (int n : FAR) {
            Bench.due("end(" + n + ") of 40", y.end(n), Bench.BAD);
        }
        Bench.due("INPUT stays", y.count(6), 40);
        Bench.due("no ARGUMENT", y.count(7), 0);
        y.end(19);
        y.arg("t");
        Bench.due("what stayed is whole", y.put(1), 0);
        y.merge();
        Bench.due("what stayed is whole", y.pathOf(0), TWENTY + "a");
    }

    private static void asManyMustBeThere() {
        Bench.sentence("as many must be there");
        Bench x = new Bench();
        for (int n = 1; n <= 19; n++) {
            Bench.due("end(" + n + ") of nothing", x.end(n), Bench.BAD);
            Bench.due("ARGUMENTS", x.count(7), 0);
        }
        Bench.due("end(0) of nothing", x.end(0), 1);
        Bench.due("end(1) of nothing", x.end(1), Bench.BAD);
        x.type(TWENTY);
        Bench.due("end(19) of 20", x.end(19), 2);
        Bench.due("INPUT is empty then", x.count(6), 0);
        Bench.due("end(1) of nothing, with ARGUMENTS", x.end(1), Bench.BAD);
        Bench.due("ARGUMENTS", x.count(7), 2);
        Bench.due("end(0) of nothing, with ARGUMENTS", x.end(0), 3);
    }

    private static void theFirstOfFourGoes() {
        Bench.sentence("INPUT is the last ARGUMENT (if there are four, the first of them goes)");
        for (int more = 0; more <= 6; more++) {
            Bench x = new Bench();
            for (int k = 1; k <= 4 + more; k++) {
                x.type(TWENTY);
                Bench.due("end " + k, x.end(k), Math.min(k, 4));
                Bench.due("ARGUMENTS", x.count(7), Math.min(k, 4));
                Bench.due("INPUT", x.count(6), 0);
            }
            Bench.due("four are too many", x.put(0), Bench.BAD);
            Bench.due("none is left", x.count(7), 0);
            Bench.due("the next is the first", x.end(0), 1);
        }
        Bench y = new Bench();
        for (int k = 1; k <= 9; k++) {
            Bench.due("an empty ARGUMENT, too: " + k, y.end(0), Math.min(k, 4));
        }
        Bench.due("copy", y.copy(0, 1), Bench.BAD);
        y.arg("path").arg("text");
        Bench.due("new ones are whole", y.put(1), 0);
        y.merge();
        Bench.due("new ones are whole", y.all(), "path - -1 -1 -1 blob 0 [text]");
    }

    private static void inputIsNoArgument() {
        Bench.sentence("A call with [ ] takes all ARGUMENTS");
        Bench x = new Bench().files("0", "p", "t");
        x.type(TWENTY);
        Bench.due("put with INPUT alone", x.put(0), Bench.BAD);
        Bench.due("drop with INPUT alone", x.drop(0), Bench.BAD);
        Bench.due("copy with INPUT", x.copy(0, 1), Bench.VOID);
        Bench.due("merge with INPUT", x.merge(), 0);
        Bench.due("INPUT", x.count(6), 20);
        Bench.due("end", x.end(0), 1);
        Bench.due("its BYTES", x.drop(0), Bench.NOT_THERE);
        x.type("p");
        x.end(19);
        Bench.due("its BYTES", x.drop(0), Bench.VOID);
        x.arg("q").arg("u");
        x.type("rest");
        Bench.due("put with INPUT behind", x.put(2), 1);
        Bench.due("INPUT", x.count(6), 20);
        x.end(16);
        x.arg("v");
        Bench.due("put", x.put(2), 2);
        Bench.due("merge", x.merge(), 0);
        Bench.due("INPUT was moved whole", x.all(), "p - -1 -1 -1 blob 0 [t]; q - -1 -1 -1 blob 1 [u]; "
                + "rest - -1 -1 -1 blob 2 [v]");
    }

    private static void theLastCall() {
        Bench.sentence("An object is used for at most 512 calls");
        Bench x = new Bench().files("0", "p", "t");
        for (int k = x.calls(); k < Bench.MOST_CALLS - 6; k++) {
            Bench.due("count", x.count(0), 1);
        }
        x.arg("q").arg("u");
        Bench.due("put", x.put(0), 1);
        Bench.due("call 512", x.blob(0, 1), 1);
        Bench.due("calls", x.calls(), Bench.MOST_CALLS);
    }

    public static void main(String[] args) {
        theLeastAndGreatestBytes();
        theHighestByteFirst();
        inputAsLongAsCanBe();
        howManyBytesGo();
        asManyMustBeThere();
        theFirstOfFourGoes();
        inputIsNoArgument();
        theLastCall();
        Bench.finishWithinMostCalls();
    }
}
