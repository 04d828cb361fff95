import java.util.ArrayList;
import java.util.HashMap;
import java.util.List;
import java.util.Map;
import java.util.TreeMap;
import java.util.TreeSet;

/** The document said once more, with the Java library and without a thought of speed: random runs are held to it. */
final class Model {
    static final class Out {
        boolean unmerged;
        String text;
        int[] stages = {-1, -1, -1};
        int blob;
    }

    static final class Merged {
        final String text;
        final boolean conflict;

        Merged(String text, boolean conflict) {
            this.text = text;
            this.conflict = conflict;
        }
    }

    static final class Rename {
        final String gone;
        final String come;
        final int score;

        Rename(String gone, String come, int score) {
            this.gone = gone;
            this.come = come;
            this.score = score;
        }
    }

    final List<String> arguments = new ArrayList<>();
    final List<String> blobs = new ArrayList<>();
    final List<TreeMap<String, Integer>> maps = new ArrayList<>();
    TreeMap<String, Out> outcomes = new TreeMap<>();

    Model() {
        for (int i = 0; i < 3; i++) {
            maps.add(new TreeMap<>());
        }
    }

    void arg(String text) {
        if (arguments.size() == 4) {
            arguments.remove(0);
        }
        arguments.add(text);
    }

    private List<String> take() {
        List<String> taken = new ArrayList<>(arguments);
        arguments.clear();
        return taken;
    }

    static boolean isPath(String s) {
        if (s.length() > 255) {
            return false;
        }
        String[] names = s.split("/", -1);
        for (String n : names) {
            if (!n.matches("[!-.0-~]{1,100}") || n.equals(".") || n.equals("..")) {
                return false;
            }
        }
        return names.length <= 20;
    }

    static boolean fit(Iterable<String> paths) {
        TreeSet<String> set = new TreeSet<>();
        int bytes = 0;
        for (String p : paths) {
            set.add(p);
            bytes += p.length();
        }
        for (String p : set) {
            for (int k = p.indexOf('/'); k >= 0; k = p.indexOf('/', k + 1)) {
                if (set.contains(p.substring(0, k))) {
                    return false;
                }
            }
        }
        return set.size() <= 400 && bytes <= 8192;
    }

    int blobBytes() {
        return blobs.stream().mapToInt(String::length).sum();
    }

    String put(int map) {
        List<String> a = take();
        if (map < 0 || map > 2 || a.size() != 2 || !isPath(a.get(0))) {
            return Bench.BAD;
        }
        TreeSet<String> would = new TreeSet<>(maps.get(map).keySet());
        would.add(a.get(0));
        int number = blobs.indexOf(a.get(1));
        int length = a.get(1).length();
        boolean tooMuch = number < 0 && (blobs.size() == 500 || length > 4096 || blobBytes() + length > 32768);
        if (!fit(would) || tooMuch) {
            return Bench.REFUSED;
        }
        if (number < 0) {
            number = blobs.size();
            blobs.add(a.get(1));
        }
        maps.get(map).put(a.get(0), number);
        return "" + number;
    }

    String drop(int map) {
        List<String> a = take();
        if (map < 0 || map > 2 || a.size() != 1 || !isPath(a.get(0))) {
            return Bench.BAD;
        }
        return maps.get(map).remove(a.get(0)) == null ? Bench.NOT_THERE : Bench.VOID;
    }

    String copy(int from, int to) {
        List<String> a = take();
        if (from < 0 || from > 2 || to < 0 || to > 2 || !a.isEmpty()) {
            return Bench.BAD;
        }
        maps.set(to, new TreeMap<>(maps.get(from)));
        return Bench.VOID;
    }

    static List<String> lines(String text) {
        List<String> list = new ArrayList<>();
        String rest = text;
        while (!rest.isEmpty()) {
            int cut = rest.indexOf('\n');
            int end = cut < 0 ? rest.length() : cut + 1;
            list.add(rest.substring(0, end));
            rest = rest.substring(end);
        }
        return list;
    }

    static boolean rough(String text) {
        return text.indexOf('\0') >= 0 || lines(text).size() > 200;
    }

    static int score(String x, String y, boolean many) {
        if (x.equals(y)) {
            return 1000;
        }
        if (rough(x) || rough(y) || many) {
            return 0;
        }
        Map<String, Integer> left = new HashMap<>();
        for (String l : lines(x)) {
            left.merge(l, 1, Integer::sum);
        }
        int common = 0;
        for (String l : lines(y)) {
            if (left.getOrDefault(l, 0) > 0) {
                left.merge(l, -1, Integer::sum);
                common += l.length();
            }
        }
        return 1000 * common / Math.max(x.length(), y.length());
    }

    List<Rename> renames(int a, int b) {
        TreeSet<String> gone = new TreeSet<>(maps.get(a).keySet());
        gone.removeAll(maps.get(b).keySet());
        TreeSet<String> come = new TreeSet<>(maps.get(b).keySet());
        come.removeAll(maps.get(a).keySet());
        boolean many = gone.size() > 50 || come.size() > 50;
        List<Rename> pairs = new ArrayList<>();
        for (String g : gone) {
            for (String c : come) {
                String x = blobs.get(maps.get(a).get(g));
                String y = blobs.get(maps.get(b).get(c));
                int s = score(x, y, many);
                if (s >= 500 && !x.isEmpty() && !y.isEmpty()) {
                    pairs.add(new Rename(g, c, s));
                }
            }
        }
        // The sort is stable: pairs of one SCORE stay in order of GONE, then COME.
        pairs.sort((p, q) -> q.score - p.score);
        List<Rename> found = new ArrayList<>();
        for (Rename r : pairs) {
            if (gone.contains(r.gone) && come.contains(r.come)) {
                gone.remove(r.gone);
                come.remove(r.come);
                found.add(r);
            }
        }
        found.sort((p, q) -> p.gone.compareTo(q.gone));
        return found;
    }

    String renamesText(int a, int b) {
        StringBuilder s = new StringBuilder();
        List<String> first = new ArrayList<>(maps.get(a).keySet());
        List<String> second = new ArrayList<>(maps.get(b).keySet());
        for (Rename r : renames(a, b)) {
            s.append(s.length() == 0 ? "" : ", ").append(first.indexOf(r.gone)).append(">")
                    .append(second.indexOf(r.come)).append(" ").append(r.score);
        }
        return s.toString();
    }

    static int[] pairs(List<String> x, List<String> y) {
        int[][] rest = new int[x.size() + 1][y.size() + 1];
        for (int i = x.size() - 1; i >= 0; i--) {
            for (int j = y.size() - 1; j >= 0; j--) {
                rest[i][j] = Math.max(rest[i + 1][j], rest[i][j + 1]);
                if (x.get(i).equals(y.get(j))) {
                    rest[i][j] = Math.max(rest[i][j], rest[i + 1][j + 1] + 1);
                }
            }
        }
        int[] pair = new int[x.size()];
        java.util.Arrays.fill(pair, -1);
        for (int i = 0, j = 0; i < x.size() && j < y.size();) {
            if (x.get(i).equals(y.get(j))) {
                pair[i++] = j++;
            } else if (rest[i + 1][j] >= rest[i][j + 1]) {
                i++;
            } else {
                j++;
            }
        }
        return pair;
    }

    private static String closed(String part) {
        return part.isEmpty() || part.endsWith("\n") ? part : part + "\n";
    }

    static Merged merged(String base, String ours, String theirs) {
        if (rough(base) || rough(ours) || rough(theirs)) {
            return new Merged(ours, true);
        }
        List<String> b = lines(base);
        List<String> o = lines(ours);
        List<String> t = lines(theirs);
        int[] po = pairs(b, o);
        int[] pt = pairs(b, t);
        StringBuilder s = new StringBuilder();
        boolean conflict = false;
        int fromB = 0;
        int fromO = 0;
        int fromT = 0;
        for (int i = 0; i <= b.size(); i++) {
            boolean last = i == b.size();
            if (!last && (po[i] < 0 || pt[i] < 0)) {
                continue;
            }
            String partB = String.join("", b.subList(fromB, i));
            String partO = String.join("", o.subList(fromO, last ? o.size() : po[i]));
            String partT = String.join("", t.subList(fromT, last ? t.size() : pt[i]));
            if (partO.equals(partB)) {
                s.append(partT);
            } else if (partT.equals(partB) || partT.equals(partO)) {
                s.append(partO);
            } else {
                conflict = true;
                s.append("<<<<<<< ours\n").append(closed(partO)).append("=======\n").append(closed(partT))
                        .append(">>>>>>> theirs\n");
            }
            if (!last) {
                s.append(b.get(i));
                fromB = i + 1;
                fromO = po[i] + 1;
                fromT = pt[i] + 1;
            }
        }
        return s.length() > 65536 ? new Merged(ours, true) : new Merged(s.toString(), conflict);
    }

    private Map<String, String> follow(int side) {
        Map<String, String> to = new HashMap<>();
        for (String p : maps.get(0).keySet()) {
            if (maps.get(side).containsKey(p)) {
                to.put(p, p);
            }
        }
        for (Rename r : renames(0, side)) {
            to.put(r.gone, r.come);
        }
        return to;
    }

    private TreeMap<String, Out> made;
    private List<String> places;
    private int mergedBytes;

    String merge() {
        if (!take().isEmpty()) {
            return Bench.BAD;
        }
        made = new TreeMap<>();
        places = new ArrayList<>();
        mergedBytes = 0;
        Map<String, String> toOurs = follow(1);
        Map<String, String> toTheirs = follow(2);
        for (String p : maps.get(0).keySet()) {
            outcome(p, toOurs.get(p), toTheirs.get(p));
        }
        TreeSet<String> otherOurs = new TreeSet<>(maps.get(1).keySet());
        otherOurs.removeAll(toOurs.values());
        TreeSet<String> otherTheirs = new TreeSet<>(maps.get(2).keySet());
        otherTheirs.removeAll(toTheirs.values());
        TreeSet<String> others = new TreeSet<>(otherOurs);
        others.addAll(otherTheirs);
        for (String q : others) {
            outcome(null, otherOurs.contains(q) ? q : null, otherTheirs.contains(q) ? q : null);
        }
        if (made.size() < places.size() || !fit(places) || mergedBytes > 65536) {
            return Bench.REFUSED;
        }
        outcomes = made;
        return "" + outcomes.values().stream().filter(o -> o.unmerged).count();
    }

    private int blobAt(int map, String path) {
        return path == null ? -1 : maps.get(map).get(path);
    }

    private void outcome(String p, String a, String b) {
        int base = blobAt(0, p);
        int ours = blobAt(1, a);
        int theirs = blobAt(2, b);
        Out out = new Out();
        String place;
        boolean wasMerged = false;
        if (a == null && b == null) {
            return;
        } else if (a == null || b == null) {
            place = a == null ? b : a;
            out.blob = a == null ? theirs : ours;
            if (p != null && place.equals(p) && out.blob == base) {
                return;
            }
            out.unmerged = p != null;
            out.text = blobs.get(out.blob);
        } else {
            place = a.equals(b) || !a.equals(p) ? a : b;
            out.unmerged = !a.equals(b) && !a.equals(p) && !b.equals(p);
            if (ours == theirs || p != null && theirs == base) {
                out.blob = ours;
            } else if (p != null && ours == base) {
                out.blob = theirs;
            } else {
                Merged m = merged(p == null ? "" : blobs.get(base), blobs.get(ours), blobs.get(theirs));
                wasMerged = true;
                out.text = m.text;
                out.unmerged |= m.conflict;
                out.blob = out.unmerged ? -1 : blobs.indexOf(m.text);
            }
            if (!wasMerged) {
                out.text = blobs.get(out.blob);
            }
        }
        if (out.unmerged) {
            out.stages = new int[] {base, ours, theirs};
        }
        if (wasMerged && out.blob < 0) {
            mergedBytes += out.text.length();
        }
        places.add(place);
        made.put(place, out);
    }

    String all() {
        StringBuilder s = new StringBuilder();
        for (Map.Entry<String, Out> e : outcomes.entrySet()) {
            Out o = e.getValue();
            s.append(s.length() == 0 ? "" : "; ").append(e.getKey()).append(o.unmerged ? " U " : " - ")
                    .append(o.stages[0]).append(" ").append(o.stages[1]).append(" ").append(o.stages[2])
                    .append(" blob ").append(o.blob).append(" [").append(o.text).append("]");
        }
        return s.toString();
    }
}
