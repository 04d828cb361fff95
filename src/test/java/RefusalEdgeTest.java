import java.util.function.Function;

/** What is "Bad", REFUSED and "not there", which comes first, and what such calls leave as it was: all promises. */
public final class RefusalEdgeTest {
    private static final int[] NO_MAPS = {Integer.MIN_VALUE, -2, -1, 3, 4, 255, Integer.MAX_VALUE};
    private static final String START = "maps [0 1] [0] [1 2], 3 blobs of 4, input 20, "
            + "outcomes r - -1 -1 -1 blob 2 [CC]";

    /** PATHS p and q in base, p in ours, q and r in theirs, and a MERGING done. */
    private static Bench start() {
        Bench x = new Bench().files("0", "p", "A", "0", "q", "B", "1", "p", "A", "2", "q", "B", "2", "r", "CC");
        Bench.due("merge", x.merge(), 0);
        return x;
    }

    private static void refused(String what, String want, Function<Bench, String> call, String... arguments) {
        Bench x = start();
        for (String a : arguments) {
            x.arg(a);
        }
        x.type("some/INPUT");
        Bench.due(what + ": ARGUMENTS before", x.count(7), Math.min(arguments.length, 4));
        Bench.due(what, call.apply(x), want);
        Bench.due(what + ": ARGUMENTS", x.count(7), 0);
        Bench.due(what + ": nothing is changed", x.state(), START);
        Bench.due(what + ": INPUT is whole", x.end(10), 1);
        Bench.due(what + ": INPUT is whole", x.arg("new").put(2), 3);
        Bench.due(what + ": INPUT is whole", x.drop(2, "some/INPUT"), Bench.VOID);
    }

    private static void numbersOfArguments() {
        Bench.sentence("another number of ARGUMENTS than in [ ]");
        String[][] lists = {{}, {"p"}, {"p", "new"}, {"p", "new", "p"}, {"p", "new", "p", "new"},
            {"p", "new", "p", "new", "p"}};
        for (String[] list : lists) {
            String what = " with " + list.length;
            if (list.length != 2) {
                refused("put" + what, Bench.BAD, x -> x.put(0), list);
            }
            if (list.length != 1) {
                refused("drop" + what, Bench.BAD, x -> x.drop(0), list);
            }
            if (list.length != 0) {
                refused("copy" + what, Bench.BAD, x -> x.copy(0, 1), list);
                refused("merge" + what, Bench.BAD, x -> x.merge(), list);
            }
        }
        String[][] empty = {{""}, {"", ""}, {"", "", ""}, {"", "", "", ""}};
        for (String[] list : empty) {
            String what = " with empty ones, " + list.length;
            refused("put" + what, Bench.BAD, x -> x.put(0), list);
            refused("drop" + what, Bench.BAD, x -> x.drop(0), list);
            refused("copy" + what, Bench.BAD, x -> x.copy(0, 1), list);
            refused("merge" + what, Bench.BAD, x -> x.merge(), list);
        }
    }

    private static void theRightNumberOfArguments() {
        Bench.sentence("A call with [ ] takes all ARGUMENTS: there are none then, whatever happens");
        Bench x = new Bench().arg("p").arg("A");
        Bench.due("put", x.put(0), 0);
        Bench.due("ARGUMENTS", x.count(7), 0);
        x.arg("p");
        Bench.due("drop", x.drop(0), Bench.VOID);
        Bench.due("ARGUMENTS", x.count(7), 0);
        Bench.due("copy", x.copy(0, 1), Bench.VOID);
        Bench.due("merge", x.merge(), 0);
        Bench.due("ARGUMENTS", x.count(7), 0);
        Bench.due("put of what was taken", x.put(0), Bench.BAD);
        Bench.due("drop of what was taken", x.drop(0), Bench.BAD);
    }

    private static void mapsOutOfRange() {
        Bench.sentence("\"Bad\" ..: a number out of range");
        for (int no : NO_MAPS) {
            refused("put to " + no, Bench.BAD, x -> x.put(no), "p", "new");
            refused("drop from " + no, Bench.BAD, x -> x.drop(no), "p");
            refused("copy from " + no, Bench.BAD, x -> x.copy(no, 0));
            refused("copy to " + no, Bench.BAD, x -> x.copy(0, no));
            refused("copy from and to " + no, Bench.BAD, x -> x.copy(no, no));
            refused("blob of " + no, Bench.BAD, x -> x.blob(no, 0));
            refused("renamed from " + no, Bench.BAD, x -> x.renamed(no, 0, 0, 0));
            refused("renamed to " + no, Bench.BAD, x -> x.renamed(0, no, 0, 0));
        }
        for (int map = 0; map < 3; map++) {
            Bench y = start();
            Bench.due("put to " + map, y.put(map, "z", "T"), 3);
            Bench.due("drop from " + map, y.drop(map, "z"), Bench.VOID);
            for (int to = 0; to < 3; to++) {
                Bench.due("copy " + map + " " + to, y.copy(map, to), Bench.VOID);
                Bench.due("the same then", y.map(to), y.map(map));
            }
        }
    }

    private static void copies() {
        Bench.sentence("MAP to is MAP from");
        Bench x = start();
        Bench.due("to itself", x.copy(2, 2), Bench.VOID);
        Bench.due("nothing is changed", x.map(2), "1 2");
        Bench.due("of the longer one", x.copy(0, 1), Bench.VOID);
        Bench.due("the copy", x.map(1), "0 1");
        Bench.due("the other", x.map(0), "0 1");
        Bench.due("drop from it", x.drop(1, "p"), Bench.VOID);
        Bench.due("the other stays", x.map(0), "0 1");
        Bench.due("of the shorter one", x.copy(1, 0), Bench.VOID);
        Bench.due("the copy", x.map(0), "1");
        Bench.due("its PATH", x.drop(0, "p"), Bench.NOT_THERE);
        Bench.due("its PATH", x.drop(0, "q"), Bench.VOID);
        Bench.due("of an empty one", x.copy(0, 2), Bench.VOID);
        Bench.due("the copy", x.map(2), "");
        Bench.due("put to the copy", x.put(2, "r/s", "A"), 0);
        Bench.due("the other is empty", x.map(0), "");
        Bench.due("to an empty one", x.copy(2, 0), Bench.VOID);
        Bench.due("the copy", x.map(0), "0");
    }

    private static void badComesFirst() {
        Bench.sentence("one of another form; it comes first");
        refused("put, wrong MAP and BENEATH", Bench.BAD, x -> x.put(3), "p/q", "new");
        refused("put, one more ARGUMENT and BENEATH", Bench.BAD, x -> x.put(0), "p/q", "new", "");
        refused("put, no PATH", Bench.BAD, x -> x.put(0), "p/", "new");
        refused("put, no PATH in place of the second", Bench.BAD, x -> x.put(0), "", "p");
        refused("drop, wrong MAP and not there", Bench.BAD, x -> x.drop(-1), "x");
        refused("drop, two ARGUMENTS and not there", Bench.BAD, x -> x.drop(0), "x", "x");
        refused("drop, no PATH", Bench.BAD, x -> x.drop(0), "p/");
        refused("outcome, wrong what and not there", Bench.BAD, x -> x.outcome(1, 7));
        refused("outcome, wrong what and below 0", Bench.BAD, x -> x.outcome(-1, -1));
        refused("letter, wrong what and not there", Bench.BAD, x -> x.letter(1, 2, 0));
        refused("letter, wrong what and k not there", Bench.BAD, x -> x.letter(0, -1, 9));
        refused("blob, wrong MAP and not there", Bench.BAD, x -> x.blob(3, 9));
        refused("blob, wrong MAP and below 0", Bench.BAD, x -> x.blob(-1, -1));
        refused("renamed, the same MAPS and not there", Bench.BAD, x -> x.renamed(1, 1, 9, 0));
        refused("renamed, wrong what and not there", Bench.BAD, x -> x.renamed(0, 1, 9, 3));
    }

    private static void badBeforeRefusedMergings() {
        Bench.sentence("it comes first");
        Bench x = new Bench().files("1", "p", "A", "2", "p/q", "B");
        x.arg("p");
        Bench.due("merge with an ARGUMENT", x.merge(), Bench.BAD);
        Bench.due("ARGUMENTS", x.count(7), 0);
        Bench.due("merge", x.merge(), Bench.REFUSED);
        Bench.due("ARGUMENTS", x.count(7), 0);
    }

    private static void refusedAndNotThere() {
        Bench.sentence("Else a refused call changes nothing");
        refused("put BENEATH", Bench.REFUSED, x -> x.put(0), "p/q", "new");
        refused("put BENEATH, a known BLOB", Bench.REFUSED, x -> x.put(1), "p/q/r", "CC");
        refused("drop", Bench.NOT_THERE, x -> x.drop(1), "q");
        refused("drop of a beginning", Bench.NOT_THERE, x -> x.drop(0), "p/p");
        refused("outcome", Bench.NOT_THERE, x -> x.outcome(1, 0));
        refused("outcome below 0", Bench.NOT_THERE, x -> x.outcome(-1, 0));
        refused("letter", Bench.NOT_THERE, x -> x.letter(0, 1, 2));
        refused("letter below 0", Bench.NOT_THERE, x -> x.letter(0, 1, -1));
        refused("blob", Bench.NOT_THERE, x -> x.blob(1, 1));
        refused("blob below 0", Bench.NOT_THERE, x -> x.blob(1, -1));
        refused("renamed", Bench.NOT_THERE, x -> x.renamed(0, 1, 0, 0));
        refused("renamed below 0", Bench.NOT_THERE, x -> x.renamed(0, 1, -1, 0));
        refused("end", Bench.BAD, x -> x.end(20));
        refused("end below 0", Bench.BAD, x -> x.end(-1));
        refused("count", "-1", x -> "" + x.count(8));
        refused("count below 0", "-1", x -> "" + x.count(-1));
    }

    private static void callsWithoutArguments() {
        Bench.sentence("A call with [ ] takes all ARGUMENTS");
        Bench x = new Bench().files("1", "a", "A");
        x.merge();
        x.arg("p").arg("B");
        Bench.due("outcome", x.outcome(0, 0), 1);
        Bench.due("outcome", x.outcome(1, 0), Bench.NOT_THERE);
        Bench.due("outcome", x.outcome(0, 7), Bench.BAD);
        Bench.due("letter", x.letter(0, 0, 0), (int) 'a');
        Bench.due("letter", x.letter(0, 0, 1), Bench.NOT_THERE);
        Bench.due("letter", x.letter(0, 2, 0), Bench.BAD);
        Bench.due("blob", x.blob(1, 0), 0);
        Bench.due("blob", x.blob(0, 0), Bench.NOT_THERE);
        Bench.due("blob", x.blob(3, 0), Bench.BAD);
        Bench.due("renamed", x.renamed(0, 1, 0, 0), Bench.NOT_THERE);
        Bench.due("renamed", x.renamed(0, 0, 0, 0), Bench.BAD);
        Bench.due("end", x.end(1), Bench.BAD);
        Bench.due("end", x.end(-1), Bench.BAD);
        Bench.due("count", x.count(9), -1);
        Bench.due("ARGUMENTS stay", x.count(7), 2);
        Bench.due("they are whole", x.put(1), 1);
        Bench.due("merge", x.merge(), 0);
        Bench.due("they were whole", x.all(), "a - -1 -1 -1 blob 0 [A]; p - -1 -1 -1 blob 1 [B]");
    }

    public static void main(String[] args) {
        numbersOfArguments();
        theRightNumberOfArguments();
        mapsOutOfRange();
        copies();
        badComesFirst();
        badBeforeRefusedMergings();
        refusedAndNotThere();
        callsWithoutArguments();
        Bench.finishWithinMostCalls();
    }
}
