import java.io.IOException;
import java.nio.file.Files;
import java.nio.file.Path;
import java.util.List;

/** The examples of README.md: they answer what it says there, and stand there word by word as here. */
public final class ReadmeTest {
    private static void smallExample() {
        MapMerger x = new MapMerger();
        x.feed('p' << 24, 0, 0, 0, 0);                          // the path "p" ...
        x.end(19);                                              // ... is the first argument
        x.feed('h' << 24 | 'i' << 16 | '\n' << 8, 0, 0, 0, 0);
        x.end(17);                                              // the text "hi\n" is the second one
        int blob = x.put(0);                                    // p is in map 0 (base), with blob 0
        x.copy(0, 1);                                           // ours is as base
        x.copy(0, 2);                                           // and so is theirs
        int unmerged = x.merge();                               // 0
        int length = x.outcome(0, 2);                           // 3
        int first = x.letter(0, 1, 0);                          // 'h'

        Bench.due("blob", blob, 0);
        Bench.due("unmerged", unmerged, 0);
        Bench.due("length", length, 3);
        Bench.due("first", first, (int) 'h');
    }

    static void argument(MapMerger x, String text) {
        int fed = (text.length() + 19) / 20 * 20;
        int[] n = new int[5];
        for (int k = 0; k < fed; k++) {
            n[k % 20 / 4] = n[k % 20 / 4] << 8 | (k < text.length() ? text.charAt(k) : 0);
            if (k % 20 == 19) {
                x.feed(n[0], n[1], n[2], n[3], n[4]);
            }
        }
        x.end(fed - text.length());
    }

    static void put(MapMerger x, int map, String path, String text) {
        argument(x, path);
        argument(x, text);
        x.put(map);
    }

    private static void renameExample() {
        MapMerger x = new MapMerger();
        put(x, 0, "notes", "one\ntwo\nthree\n");
        put(x, 1, "list", "one\ntwo\nthree\n");                 // ours gave the file another name,
        put(x, 2, "notes", "one\n2\nthree\n");                  // theirs changed a line of it:
        int left = x.merge();                                   // 0, "list" has theirs' text
        int score = x.renamed(0, 1, 0, 2);                      // 1000, as the text is the same
        int taken = x.outcome(0, 6);                            // 1, theirs' blob

        put(x, 1, "list", "one\nTWO\nthree\n");                 // now ours changes the same line:
        left += x.merge();                                      // 1, "list" has both lines between marks
        int made = x.outcome(0, 6);                             // -1, its text is no blob
        int base = x.outcome(0, 3);                             // 0, and the three blobs that it's made from
        int ours = x.outcome(0, 4);                             // 2
        int theirs = x.outcome(0, 5);                           // 1

        Bench.due("left", left, 1);
        Bench.due("score", score, 1000);
        Bench.due("taken", taken, 1);
        Bench.due("made", made, -1);
        Bench.due("stages", base + " " + ours + " " + theirs, "0 2 1");
        Bench.due("path", read(x, 0), "list");
        Bench.due("text", read(x, 1), "one\n<<<<<<< ours\nTWO\n=======\n2\n>>>>>>> theirs\nthree\n");
    }

    private static String read(MapMerger x, int what) {
        StringBuilder s = new StringBuilder();
        int length = x.outcome(0, 2 * what);
        for (int k = 0; k < length; k++) {
            s.append((char) x.letter(0, what, k));
        }
        return s.toString();
    }

    private static String stripped(List<String> lines) {
        StringBuilder s = new StringBuilder("\n");
        for (String line : lines) {
            s.append(line.strip()).append('\n');
        }
        return s.toString();
    }

    private static void examplesAreShown() throws IOException {
        String here = stripped(Files.readAllLines(Path.of("src/test/java/ReadmeTest.java")));
        String[] blocks = stripped(Files.readAllLines(Path.of("README.md"))).split("\n```");
        int shown = 0;
        for (String block : blocks) {
            if (block.startsWith("java\n")) {
                shown++;
                boolean same = here.contains(block.substring(4) + "\n");
                Bench.due("whether example " + shown + " of README.md is as in ReadmeTest", same, true);
            }
        }
        Bench.due("examples in README.md", shown, 3);
    }

    public static void main(String[] args) throws IOException {
        smallExample();
        renameExample();
        examplesAreShown();
        Bench.finish();
    }
}
