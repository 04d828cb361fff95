import java.util.Random;

/** Calls with numbers of all sizes (the same ones every time): each throws only what the document lets it throw. */
public final class WildCallsTest {
    private static final int[] EDGES = {0, 1, 2, 3, 4, 5, 6, 7, 8, 19, 20, 21, 50, 400, 65536, -1, -2, 0x61616161,
        0x610a620a, 0x2f2f2f2f, Integer.MAX_VALUE, Integer.MIN_VALUE};

    private final Random random;
    private final Bench x = new Bench();

    private WildCallsTest(int seed) {
        random = new Random(seed);
    }

    private int number() {
        return random.nextInt(8) == 0 ? random.nextInt() : EDGES[random.nextInt(EDGES.length)];
    }

    private int small() {
        return random.nextInt(6) == 0 ? number() : random.nextInt(3);
    }

    private static void may(String what, String answer, String... thrown) {
        boolean fine = !answer.startsWith("throws.") || java.util.Arrays.asList(thrown).contains(answer);
        Bench.due(what + " (" + answer + ")", fine, true);
    }

    private void call() {
        switch (random.nextInt(13)) {
            case 0:
                may("feed", x.feed(number(), number(), number(), number(), number()), Bench.REFUSED);
                break;
            case 1:
                may("end", x.end(random.nextBoolean() ? 19 : number()), Bench.BAD);
                break;
            case 2:
            case 3:
            case 4:
                x.arg("" + (char) ('a' + random.nextInt(4)));
                x.arg(random.nextBoolean() ? "T" : "1\n" + random.nextInt(3) + "\n");
                may("put", x.put(small()), Bench.BAD, Bench.REFUSED);
                break;
            case 5:
                may("put", x.put(small()), Bench.BAD, Bench.REFUSED);
                break;
            case 6:
                may("drop", x.arg("a").drop(small()), Bench.BAD, Bench.NOT_THERE);
                break;
            case 7:
                may("copy", x.copy(small(), small()), Bench.BAD);
                break;
            case 8:
                may("merge", x.merge(), Bench.BAD, Bench.REFUSED);
                break;
            case 9:
                may("renamed", x.renamed(small(), small(), small(), small()), Bench.BAD, Bench.NOT_THERE);
                break;
            case 10:
                may("outcome", x.outcome(small(), number()), Bench.BAD, Bench.NOT_THERE);
                break;
            case 11:
                may("letter", x.letter(small(), small(), small()), Bench.BAD, Bench.NOT_THERE);
                break;
            default:
                may("blob", x.blob(small(), small()), Bench.BAD, Bench.NOT_THERE);
                may("count", Bench.say(() -> x.count(number())));
                break;
        }
    }

    public static void main(String[] args) {
        for (int seed = 0; seed < 300; seed++) {
            WildCallsTest run = new WildCallsTest(seed);
            while (run.x.calls() < Bench.MOST_CALLS - 8) {
                run.call();
            }
        }
        Bench.finishWithinMostCalls();
    }
}
