/** Promise 1. */
public final class NewObjectTest {
    public static void main(String[] args) {
        Bench x = new Bench();
        for (int what = 0; what <= 7; what++) {
            Bench.due("new: count " + what, x.count(what), 0);
        }
        for (int map = 0; map < 3; map++) {
            Bench.due("new: blob", x.blob(map, 0), Bench.NOT_THERE);
            Bench.due("new: renamed", x.renamed(map, (map + 1) % 3, 0, 0), Bench.NOT_THERE);
        }
        Bench.due("new: outcome", x.outcome(0, 0), Bench.NOT_THERE);
        Bench.due("new: letter", x.letter(0, 0, 0), Bench.NOT_THERE);
        Bench.due("new: merge", x.merge(), 0);
        Bench.due("new: outcomes", x.count(5), 0);

        Bench y = new Bench();
        y.files("0", "a", "x");
        Bench.due("objects are apart", x.count(0), 0);
        Bench.due("objects are apart", y.count(0), 1);
        Bench.finish();
    }
}
