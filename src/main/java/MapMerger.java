import java.util.NoSuchElementException;

/**
 * Merges maps of files: two that come from a third one, with files that were given other names, and texts line by
 * line.
 */
public final class MapMerger {
    private static final int BASE = 0;
    private static final int OURS = 1;
    private static final int THEIRS = 2;
    private static final int MAP_COUNT = 3;

    private static final int FEED_BYTES = 20;
    private static final int MAX_CUT = 19;
    private static final int MAX_INBOX_BYTES = 16384;
    private static final int MAX_ARGUMENTS = 4;

    private static final int MAX_PATHS = 400;
    private static final int MAX_PATHS_BYTES = 8192;
    private static final int MAX_PATH_BYTES = 255;
    private static final int MAX_NAMES = 20;
    private static final int MAX_NAME_BYTES = 100;
    private static final int LEAST_NAME_BYTE = 33;
    private static final int GREATEST_NAME_BYTE = 126;

    private static final int MAX_BLOBS = 500;
    private static final int MAX_BLOB_BYTES = 4096;
    private static final int MAX_BLOBS_BYTES = 32768;
    private static final int MAX_LINES = 200;
    private static final int MAX_MERGED_BYTES = 65536;

    private static final int MAX_COMPARED = 50;
    private static final int FULL_SCORE = 1000;
    private static final int LEAST_SCORE = 500;

    private static final int LF = 10;
    private static final int SLASH = 47;
    private static final int DOT = 46;

    private static final int NONE = -1;
    // These stand for an exception until the ARGUMENTS are taken; no answer of the face is as low.
    private static final int BAD = -2;
    private static final int REFUSED = -3;
    private static final int NOT_THERE = -4;

    private final Inbox inbox;
    private final Blobs blobs;
    private final PathMap[] maps;
    private final Renames renames;
    private final Merging merging;

    public MapMerger() {
        inbox = new Inbox();
        blobs = new Blobs();
        maps = new PathMap[MAP_COUNT];
        for (int i = 0; i < MAP_COUNT; i++) {
            maps[i] = new PathMap();
        }
        renames = new Renames(blobs);
        merging = new Merging(maps[BASE], maps[OURS], maps[THEIRS], blobs);
    }

    public void feed(int a, int b, int c, int d, int e) throws IllegalStateException {
        if (!inbox.hasRoomFor(FEED_BYTES)) {
            throw new IllegalStateException();
        }
        inbox.addNumber(a);
        inbox.addNumber(b);
        inbox.addNumber(c);
        inbox.addNumber(d);
        inbox.addNumber(e);
    }

    public int end(int n) throws IllegalArgumentException {
        if (n < 0 || n > MAX_CUT || n > inbox.inputLength()) {
            throw new IllegalArgumentException();
        }
        inbox.cutInput(n);
        inbox.makeArgument();
        return inbox.argumentCount();
    }

    public int put(int map) throws IllegalArgumentException, IllegalStateException {
        int answer = putArguments(map);
        inbox.takeArguments();
        return answerOrThrow(answer);
    }

    public void drop(int map) throws IllegalArgumentException, NoSuchElementException {
        int answer = dropArgument(map);
        inbox.takeArguments();
        answerOrThrow(answer);
    }

    public void copy(int from, int to) throws IllegalArgumentException {
        boolean bad = !isMap(from) || !isMap(to) || inbox.argumentCount() != 0;
        inbox.takeArguments();
        if (bad) {
            throw new IllegalArgumentException();
        }
        maps[to].become(maps[from]);
    }

    public int merge() throws IllegalArgumentException, IllegalStateException {
        boolean bad = inbox.argumentCount() != 0;
        inbox.takeArguments();
        return answerOrThrow(bad ? BAD : merging.mergeMaps());
    }

    public int renamed(int a, int b, int i, int what) throws IllegalArgumentException, NoSuchElementException {
        if (!isMap(a) || !isMap(b) || a == b || what < 0 || what > 2) {
            throw new IllegalArgumentException();
        }
        renames.search(maps[a], maps[b]);
        int gone = renames.goneOfRename(i);
        if (gone < 0) {
            throw new NoSuchElementException();
        }
        if (what == 0) {
            return gone;
        }
        return what == 1 ? renames.partnerOf(gone) : renames.scoreOf(gone);
    }

    public int outcome(int i, int what) throws IllegalArgumentException, NoSuchElementException {
        if (what < 0 || what > 6) {
            throw new IllegalArgumentException();
        }
        Outcomes outcomes = merging.latestOutcomes();
        if (!outcomes.has(i)) {
            throw new NoSuchElementException();
        }
        switch (what) {
            case 0:
                return outcomes.pathLength(i);
            case 1:
                return outcomes.isUnmerged(i) ? 1 : 0;
            case 2:
                return outcomes.textLength(i);
            case 6:
                return outcomes.blobOf(i);
            default:
                return outcomes.stageOf(i, what - 3);
        }
    }

    public int letter(int i, int what, int k) throws IllegalArgumentException, NoSuchElementException {
        if (what < 0 || what > 1) {
            throw new IllegalArgumentException();
        }
        Outcomes outcomes = merging.latestOutcomes();
        if (!outcomes.has(i)) {
            throw new NoSuchElementException();
        }
        int length = what == 0 ? outcomes.pathLength(i) : outcomes.textLength(i);
        if (k < 0 || k >= length) {
            throw new NoSuchElementException();
        }
        return what == 0 ? outcomes.pathByte(i, k) : outcomes.textByte(i, k);
    }

    public int blob(int map, int i) throws IllegalArgumentException, NoSuchElementException {
        if (!isMap(map)) {
            throw new IllegalArgumentException();
        }
        if (!maps[map].has(i)) {
            throw new NoSuchElementException();
        }
        return maps[map].valueAt(i);
    }

    public int count(int what) {
        switch (what) {
            case BASE:
            case OURS:
            case THEIRS:
                return maps[what].size();
            case 3:
                return blobs.size();
            case 4:
                return blobs.totalLength();
            case 5:
                return merging.latestOutcomes().size();
            case 6:
                return inbox.inputLength();
            case 7:
                return inbox.argumentCount();
            default:
                return -1;
        }
    }

    private static boolean isMap(int map) {
        return map >= 0 && map < MAP_COUNT;
    }

    private static int answerOrThrow(int answer) {
        if (answer == BAD) {
            throw new IllegalArgumentException();
        }
        if (answer == REFUSED) {
            throw new IllegalStateException();
        }
        if (answer == NOT_THERE) {
            throw new NoSuchElementException();
        }
        return answer;
    }

    private int putArguments(int map) {
        if (!isMap(map) || inbox.argumentCount() != 2 || !firstArgumentIsPath()) {
            return BAD;
        }
        byte[] bytes = inbox.bytes();
        int pathLength = inbox.argumentLength(0);
        if (!maps[map].wouldFit(bytes, 0, pathLength)) {
            return REFUSED;
        }
        int number = blobs.findOrAdd(bytes, inbox.argumentStart(1), inbox.argumentLength(1));
        if (number < 0) {
            return REFUSED;
        }
        maps[map].assign(bytes, 0, pathLength, number);
        return number;
    }

    private int dropArgument(int map) {
        if (!isMap(map) || inbox.argumentCount() != 1 || !firstArgumentIsPath()) {
            return BAD;
        }
        int at = maps[map].find(inbox.bytes(), 0, inbox.argumentLength(0));
        if (at < 0) {
            return NOT_THERE;
        }
        maps[map].removeAt(at);
        return 0;
    }

    private boolean firstArgumentIsPath() {
        return Rows.isPath(inbox.bytes(), 0, inbox.argumentLength(0));
    }

    /** ARGUMENTS one behind the other, and INPUT behind the last of them, in one row of BYTES. */
    private static final class Inbox {
        private final byte[] bytes = new byte[MAX_INBOX_BYTES];
        private final int[] ends = new int[MAX_ARGUMENTS];
        private int arguments;
        private int length;

        byte[] bytes() {
            return bytes;
        }

        int argumentCount() {
            return arguments;
        }

        int argumentStart(int argument) {
            return argument == 0 ? 0 : ends[argument - 1];
        }

        int argumentLength(int argument) {
            return ends[argument] - argumentStart(argument);
        }

        int inputLength() {
            return length - argumentStart(arguments);
        }

        boolean hasRoomFor(int more) {
            return length + more <= MAX_INBOX_BYTES;
        }

        void addNumber(int number) {
            for (int shift = 24; shift >= 0; shift -= 8) {
                bytes[length] = (byte) (number >>> shift);
                length++;
            }
        }

        void cutInput(int n) {
            length -= n;
        }

        void makeArgument() {
            if (arguments == MAX_ARGUMENTS) {
                dropFirstArgument();
            }
            ends[arguments] = length;
            arguments++;
        }

        void takeArguments() {
            removeFront(argumentStart(arguments));
            arguments = 0;
        }

        private void dropFirstArgument() {
            int gone = ends[0];
            removeFront(gone);
            arguments--;
            for (int i = 0; i < arguments; i++) {
                ends[i] = ends[i + 1] - gone;
            }
        }

        private void removeFront(int gone) {
            System.arraycopy(bytes, gone, bytes, 0, length - gone);
            length -= gone;
        }
    }

    /** What can be said of rows of BYTES and of PATHS alone. */
    private static final class Rows {
        static boolean isPath(byte[] bytes, int start, int length) {
            if (length < 1 || length > MAX_PATH_BYTES) {
                return false;
            }
            int names = 0;
            int nameStart = start;
            int end = start + length;
            for (int at = start; at <= end; at++) {
                if (at == end || bytes[at] == SLASH) {
                    if (!isName(bytes, nameStart, at - nameStart)) {
                        return false;
                    }
                    names++;
                    nameStart = at + 1;
                }
            }
            return names <= MAX_NAMES;
        }

        static boolean isName(byte[] bytes, int start, int length) {
            if (length < 1 || length > MAX_NAME_BYTES || isDots(bytes, start, length)) {
                return false;
            }
            for (int at = start; at < start + length; at++) {
                // BYTES from 128 on are negative here, so the first comparison keeps them out.
                if (bytes[at] < LEAST_NAME_BYTE || bytes[at] > GREATEST_NAME_BYTE) {
                    return false;
                }
            }
            return true;
        }

        static boolean isDots(byte[] bytes, int start, int length) {
            if (length == 1) {
                return bytes[start] == DOT;
            }
            return length == 2 && bytes[start] == DOT && bytes[start + 1] == DOT;
        }

        static int commonBeginning(byte[] x, int xStart, byte[] y, int yStart, int most) {
            for (int k = 0; k < most; k++) {
                if (x[xStart + k] != y[yStart + k]) {
                    return k;
                }
            }
            return most;
        }
    }

    /** PATHS that FIT, in order, each with a number. */
    private static final class PathMap {
        private final byte[] letters = new byte[MAX_PATHS_BYTES];
        // PATH i is from starts[i] to starts[i + 1].
        private final int[] starts = new int[MAX_PATHS + 1];
        private final int[] values = new int[MAX_PATHS];
        private int size;

        int size() {
            return size;
        }

        boolean has(int i) {
            return i >= 0 && i < size;
        }

        int valueAt(int i) {
            return values[i];
        }

        int lengthOf(int i) {
            return starts[i + 1] - starts[i];
        }

        int letterAt(int i, int k) {
            return letters[starts[i] + k] & 255;
        }

        int find(byte[] path, int start, int length) {
            int at = placeFor(path, start, length);
            return isAt(at, path, start, length) ? at : NONE;
        }

        int findPathOf(PathMap other, int i) {
            return find(other.letters, other.starts[i], other.lengthOf(i));
        }

        int comparePaths(int i, PathMap other, int j) {
            return compareAt(i, other.letters, other.starts[j], other.lengthOf(j));
        }

        boolean wouldFit(byte[] path, int start, int length) {
            return find(path, start, length) >= 0 || hasRoomFor(path, start, length);
        }

        void assign(byte[] path, int start, int length, int value) {
            int at = placeFor(path, start, length);
            if (!isAt(at, path, start, length)) {
                insertAt(at, path, start, length);
            }
            values[at] = value;
        }

        /** Whether PATH i of the other could be added: it isn't here yet and FITS. */
        boolean addPathOf(PathMap other, int i, int value) {
            int start = other.starts[i];
            int length = other.lengthOf(i);
            int at = placeFor(other.letters, start, length);
            if (isAt(at, other.letters, start, length) || !hasRoomFor(other.letters, start, length)) {
                return false;
            }
            insertAt(at, other.letters, start, length);
            values[at] = value;
            return true;
        }

        void removeAt(int at) {
            int length = lengthOf(at);
            System.arraycopy(letters, starts[at + 1], letters, starts[at], starts[size] - starts[at + 1]);
            size--;
            for (int i = at; i < size; i++) {
                starts[i + 1] = starts[i + 2] - length;
                values[i] = values[i + 1];
            }
        }

        void become(PathMap other) {
            System.arraycopy(other.letters, 0, letters, 0, other.starts[other.size]);
            System.arraycopy(other.starts, 0, starts, 0, other.size + 1);
            System.arraycopy(other.values, 0, values, 0, other.size);
            size = other.size;
        }

        void clear() {
            size = 0;
        }

        private boolean hasRoomFor(byte[] path, int start, int length) {
            if (size >= MAX_PATHS || starts[size] + length > MAX_PATHS_BYTES) {
                return false;
            }
            for (int i = 0; i < size; i++) {
                if (isBeneathOrAbove(i, path, start, length)) {
                    return false;
                }
            }
            return true;
        }

        private void insertAt(int at, byte[] path, int start, int length) {
            int place = starts[at];
            System.arraycopy(letters, place, letters, place + length, starts[size] - place);
            System.arraycopy(path, start, letters, place, length);
            for (int i = size; i > at; i--) {
                starts[i + 1] = starts[i] + length;
                values[i] = values[i - 1];
            }
            starts[at + 1] = place + length;
            size++;
        }

        /** The number of the first PATH that isn't before this one. */
        private int placeFor(byte[] path, int start, int length) {
            int low = 0;
            int high = size;
            while (low < high) {
                int middle = (low + high) / 2;
                if (compareAt(middle, path, start, length) < 0) {
                    low = middle + 1;
                } else {
                    high = middle;
                }
            }
            return low;
        }

        private boolean isAt(int at, byte[] path, int start, int length) {
            return at < size && compareAt(at, path, start, length) == 0;
        }

        private int compareAt(int i, byte[] path, int start, int length) {
            int own = lengthOf(i);
            int shorter = Math.min(own, length);
            int same = Rows.commonBeginning(letters, starts[i], path, start, shorter);
            if (same == shorter) {
                return own - length;
            }
            return letterAt(i, same) - (path[start + same] & 255);
        }

        private boolean isBeneathOrAbove(int i, byte[] path, int start, int length) {
            int own = lengthOf(i);
            int shorter = Math.min(own, length);
            if (own == length || Rows.commonBeginning(letters, starts[i], path, start, shorter) < shorter) {
                return false;
            }
            return own > length ? letterAt(i, length) == SLASH : path[start + own] == SLASH;
        }
    }

    /** LINES in a row of BYTES; LINES that are the same get the same kind, so that kinds alone need be compared. */
    private static final class LineTable {
        private static final int BUCKETS = 4096;

        private final byte[] bytes;
        private final int[] starts = new int[MAX_BLOBS_BYTES];
        private final int[] lengths = new int[MAX_BLOBS_BYTES];
        // The number of the first LINE that is the same.
        private final int[] kinds = new int[MAX_BLOBS_BYTES];
        // A bucket's newest kind and, of each kind, the one before it, all plus one: 0 is the chain's end.
        private final int[] heads = new int[BUCKETS];
        private final int[] chain = new int[MAX_BLOBS_BYTES];
        private int size;

        LineTable(byte[] bytes) {
            this.bytes = bytes;
        }

        void addLine(int start, int length) {
            int bucket = bucketOf(start, length);
            int kind = findKind(bucket, start, length);
            if (kind < 0) {
                kind = size;
                chain[size] = heads[bucket];
                heads[bucket] = size + 1;
            }
            starts[size] = start;
            lengths[size] = length;
            kinds[size] = kind;
            size++;
        }

        private int bucketOf(int start, int length) {
            int mixed = length;
            for (int k = 0; k < length; k++) {
                mixed = mixed * 31 + bytes[start + k];
            }
            return (mixed ^ (mixed >>> 12)) & (BUCKETS - 1);
        }

        private int findKind(int bucket, int start, int length) {
            int next = heads[bucket];
            for (int step = 0; step < size && next > 0; step++) {
                int line = next - 1;
                if (lengths[line] == length
                        && Rows.commonBeginning(bytes, starts[line], bytes, start, length) == length) {
                    return line;
                }
                next = chain[line];
            }
            return NONE;
        }
    }

    /** BLOBS by their numbers, with their LINES; NONE stands for an empty TEXT where a TEXT need not be a BLOB. */
    private static final class Blobs {
        private final byte[] bytes = new byte[MAX_BLOBS_BYTES];
        // BLOB i is from starts[i] to starts[i + 1].
        private final int[] starts = new int[MAX_BLOBS + 1];
        private final boolean[] rough = new boolean[MAX_BLOBS];
        private final int[] firstLines = new int[MAX_BLOBS];
        private final int[] lineCounts = new int[MAX_BLOBS];
        private final LineTable lines = new LineTable(bytes);
        // How many LINES of each kind wait for another TEXT's; all 0 between two calls.
        private final int[] waiting = new int[MAX_BLOBS_BYTES];
        private int size;

        int size() {
            return size;
        }

        int totalLength() {
            return starts[size];
        }

        byte[] bytes() {
            return bytes;
        }

        int startOf(int blob) {
            return starts[blob];
        }

        int lengthOf(int blob) {
            return starts[blob + 1] - starts[blob];
        }

        int byteAt(int blob, int k) {
            return bytes[starts[blob] + k] & 255;
        }

        boolean isRough(int blob) {
            return blob >= 0 && rough[blob];
        }

        int lineCount(int blob) {
            return blob < 0 ? 0 : lineCounts[blob];
        }

        int lineKind(int blob, int k) {
            return lines.kinds[firstLines[blob] + k];
        }

        /** Where LINE k begins; behind the last LINE, where the TEXT ends. */
        int lineStart(int blob, int k) {
            return k < lineCounts[blob] ? lines.starts[firstLines[blob] + k] : starts[blob + 1];
        }

        int find(byte[] text, int start, int length) {
            for (int blob = 0; blob < size; blob++) {
                if (lengthOf(blob) == length
                        && Rows.commonBeginning(bytes, starts[blob], text, start, length) == length) {
                    return blob;
                }
            }
            return NONE;
        }

        int findOrAdd(byte[] text, int start, int length) {
            int known = find(text, start, length);
            if (known >= 0) {
                return known;
            }
            if (size >= MAX_BLOBS || length > MAX_BLOB_BYTES || totalLength() + length > MAX_BLOBS_BYTES) {
                return NONE;
            }
            addText(text, start, length);
            return size - 1;
        }

        int score(int x, int y) {
            if (x == y) {
                return FULL_SCORE;
            }
            int longer = Math.max(lengthOf(x), lengthOf(y));
            if (rough[x] || rough[y] || longer == 0) {
                return 0;
            }
            return FULL_SCORE * commonLength(x, y) / longer;
        }

        private void addText(byte[] text, int start, int length) {
            int place = starts[size];
            int end = place + length;
            System.arraycopy(text, start, bytes, place, length);
            starts[size + 1] = end;
            rough[size] = looksRough(place, end);
            firstLines[size] = lines.size;
            if (!rough[size]) {
                cutLines(place, end);
            }
            lineCounts[size] = lines.size - firstLines[size];
            size++;
        }

        private boolean looksRough(int start, int end) {
            int count = 0;
            for (int at = start; at < end; at++) {
                if (bytes[at] == 0) {
                    return true;
                }
                if (bytes[at] == LF || at == end - 1) {
                    count++;
                }
            }
            return count > MAX_LINES;
        }

        private void cutLines(int start, int end) {
            int lineStart = start;
            for (int at = start; at < end; at++) {
                if (bytes[at] == LF || at == end - 1) {
                    lines.addLine(lineStart, at + 1 - lineStart);
                    lineStart = at + 1;
                }
            }
        }

        private int commonLength(int x, int y) {
            for (int k = 0; k < lineCounts[x]; k++) {
                waiting[lineKind(x, k)]++;
            }
            int common = 0;
            for (int k = 0; k < lineCounts[y]; k++) {
                int kind = lineKind(y, k);
                if (waiting[kind] > 0) {
                    waiting[kind]--;
                    common += lines.lengths[kind];
                }
            }
            for (int k = 0; k < lineCounts[x]; k++) {
                waiting[lineKind(x, k)] = 0;
            }
            return common;
        }
    }

    /** Which PATH of one MAP became which of another, by its name or by a RENAME, as it was when searched. */
    private static final class Renames {
        private final Blobs blobs;
        private final int[] gone = new int[MAX_PATHS];
        private final int[] come = new int[MAX_PATHS];
        private final boolean[] comeTaken = new boolean[MAX_PATHS];
        private final int[] scores = new int[MAX_COMPARED * MAX_COMPARED];
        // These two by number of the PATH in the first MAP.
        private final int[] partners = new int[MAX_PATHS];
        private final int[] partnerScores = new int[MAX_PATHS];
        private int goneCount;
        private int comeCount;

        Renames(Blobs blobs) {
            this.blobs = blobs;
        }

        int partnerOf(int path) {
            return partners[path];
        }

        int scoreOf(int path) {
            return partnerScores[path];
        }

        /** The GONE PATH of RENAME i, or NONE. */
        int goneOfRename(int i) {
            int before = 0;
            for (int g = 0; g < goneCount; g++) {
                if (partners[gone[g]] >= 0) {
                    if (before == i) {
                        return gone[g];
                    }
                    before++;
                }
            }
            return NONE;
        }

        void search(PathMap from, PathMap to) {
            listChanges(from, to);
            if (goneCount > MAX_COMPARED || comeCount > MAX_COMPARED) {
                pairSameBlobs(from, to);
            } else {
                scoreAll(from, to);
                pairByScore();
            }
        }

        private void listChanges(PathMap from, PathMap to) {
            goneCount = 0;
            comeCount = 0;
            int i = 0;
            int j = 0;
            while (i < from.size() || j < to.size()) {
                int order = compareNext(from, i, to, j);
                if (order < 0) {
                    addGone(i);
                    i++;
                } else if (order > 0) {
                    addCome(j);
                    j++;
                } else {
                    partners[i] = j;
                    i++;
                    j++;
                }
            }
        }

        private static int compareNext(PathMap from, int i, PathMap to, int j) {
            if (i >= from.size()) {
                return 1;
            }
            return j >= to.size() ? -1 : from.comparePaths(i, to, j);
        }

        private void addGone(int path) {
            partners[path] = NONE;
            gone[goneCount] = path;
            goneCount++;
        }

        private void addCome(int path) {
            comeTaken[comeCount] = false;
            come[comeCount] = path;
            comeCount++;
        }

        // Every SCORE is 1000 or 0 here, so the least GONE PATH takes the least COME one that is left.
        private void pairSameBlobs(PathMap from, PathMap to) {
            for (int g = 0; g < goneCount; g++) {
                int number = from.valueAt(gone[g]);
                boolean open = blobs.lengthOf(number) > 0;
                for (int c = 0; c < comeCount && open; c++) {
                    if (!comeTaken[c] && to.valueAt(come[c]) == number) {
                        join(g, c, FULL_SCORE);
                        open = false;
                    }
                }
            }
        }

        private void scoreAll(PathMap from, PathMap to) {
            for (int g = 0; g < goneCount; g++) {
                int x = from.valueAt(gone[g]);
                for (int c = 0; c < comeCount; c++) {
                    int y = to.valueAt(come[c]);
                    boolean empty = blobs.lengthOf(x) == 0 || blobs.lengthOf(y) == 0;
                    scores[g * MAX_COMPARED + c] = empty ? 0 : blobs.score(x, y);
                }
            }
        }

        private void pairByScore() {
            for (int round = 0; round < goneCount; round++) {
                int best = bestFreePair();
                if (best < 0) {
                    return;
                }
                join(best / MAX_COMPARED, best % MAX_COMPARED, scores[best]);
            }
        }

        private int bestFreePair() {
            int best = NONE;
            int bestScore = LEAST_SCORE - 1;
            for (int g = 0; g < goneCount; g++) {
                boolean open = partners[gone[g]] < 0;
                for (int c = 0; c < comeCount && open; c++) {
                    int pair = g * MAX_COMPARED + c;
                    if (!comeTaken[c] && scores[pair] > bestScore) {
                        best = pair;
                        bestScore = scores[pair];
                    }
                }
            }
            return best;
        }

        private void join(int g, int c, int score) {
            partners[gone[g]] = come[c];
            partnerScores[gone[g]] = score;
            comeTaken[c] = true;
        }
    }

    /** Some LINES of a TEXT: those between two STABLE ones. */
    private static final class Part {
        private final Blobs blobs;
        private int number;
        private int from;
        private int to;

        Part(Blobs blobs) {
            this.blobs = blobs;
        }

        void begin(int newNumber) {
            number = newNumber;
            from = 0;
            to = 0;
        }

        void reachTo(int line) {
            to = line;
        }

        void reachToEnd() {
            to = blobs.lineCount(number);
        }

        void goBehindStable() {
            from = to + 1;
        }

        int firstByte() {
            return blobs.lineStart(number, from);
        }

        int byteBehind() {
            return blobs.lineStart(number, to);
        }

        int byteBehindStable() {
            return blobs.lineStart(number, to + 1);
        }

        boolean isAs(Part other) {
            int length = to - from;
            if (length != other.to - other.from) {
                return false;
            }
            for (int k = 0; k < length; k++) {
                if (blobs.lineKind(number, from + k) != blobs.lineKind(other.number, other.from + k)) {
                    return false;
                }
            }
            return true;
        }
    }

    /** Makes the MERGED TEXT of three TEXTS. */
    private static final class TextMerger {
        private static final int WIDTH = MAX_LINES + 1;
        private static final String OURS_MARK = "<<<<<<< ours\n";
        private static final String MIDDLE_MARK = "=======\n";
        private static final String THEIRS_MARK = ">>>>>>> theirs\n";

        private final Blobs blobs;
        private final Part base;
        private final Part ours;
        private final Part theirs;
        // In row i and column j: how long the longest common row is from LINES i and j on.
        private final int[] longest = new int[WIDTH * WIDTH];
        // By LINE of base: the other TEXT's LINE that it's in a pair with, or NONE.
        private final int[] oursPairs = new int[MAX_LINES];
        private final int[] theirsPairs = new int[MAX_LINES];
        private final byte[] text = new byte[MAX_MERGED_BYTES];
        private int length;
        private boolean conflict;
        private boolean tooLong;

        TextMerger(Blobs blobs) {
            this.blobs = blobs;
            base = new Part(blobs);
            ours = new Part(blobs);
            theirs = new Part(blobs);
        }

        byte[] text() {
            return text;
        }

        int length() {
            return length;
        }

        boolean hasConflict() {
            return conflict;
        }

        void mergeTexts(int baseText, int oursText, int theirsText) {
            startText();
            boolean rough = blobs.isRough(baseText) || blobs.isRough(oursText) || blobs.isRough(theirsText);
            if (!rough) {
                base.begin(baseText);
                ours.begin(oursText);
                theirs.begin(theirsText);
                pairLines(baseText, oursText, oursPairs);
                pairLines(baseText, theirsText, theirsPairs);
                addStableLines(blobs.lineCount(baseText));
                addLastPart();
            }
            if (rough || tooLong) {
                startText();
                addBytes(blobs.startOf(oursText), blobs.startOf(oursText) + blobs.lengthOf(oursText));
                conflict = true;
            }
        }

        private void startText() {
            length = 0;
            conflict = false;
            tooLong = false;
        }

        private void pairLines(int first, int second, int[] pairs) {
            int rows = blobs.lineCount(first);
            int columns = blobs.lineCount(second);
            fillLongest(first, second);
            for (int line = 0; line < rows; line++) {
                pairs[line] = NONE;
            }
            int i = 0;
            int j = 0;
            while (i < rows && j < columns) {
                if (blobs.lineKind(first, i) == blobs.lineKind(second, j)) {
                    pairs[i] = j;
                    i++;
                    j++;
                } else if (longest[(i + 1) * WIDTH + j] >= longest[i * WIDTH + j + 1]) {
                    i++;
                } else {
                    j++;
                }
            }
        }

        private void fillLongest(int first, int second) {
            int rows = blobs.lineCount(first);
            int columns = blobs.lineCount(second);
            for (int j = 0; j <= columns; j++) {
                longest[rows * WIDTH + j] = 0;
            }
            for (int i = rows - 1; i >= 0; i--) {
                int row = i * WIDTH;
                int kind = blobs.lineKind(first, i);
                longest[row + columns] = 0;
                for (int j = columns - 1; j >= 0; j--) {
                    if (kind == blobs.lineKind(second, j)) {
                        longest[row + j] = longest[row + WIDTH + j + 1] + 1;
                    } else {
                        longest[row + j] = Math.max(longest[row + WIDTH + j], longest[row + j + 1]);
                    }
                }
            }
        }

        private void addStableLines(int baseLines) {
            for (int line = 0; line < baseLines; line++) {
                if (oursPairs[line] >= 0 && theirsPairs[line] >= 0) {
                    base.reachTo(line);
                    ours.reachTo(oursPairs[line]);
                    theirs.reachTo(theirsPairs[line]);
                    addPart();
                    addBytes(ours.byteBehind(), ours.byteBehindStable());
                    base.goBehindStable();
                    ours.goBehindStable();
                    theirs.goBehindStable();
                }
            }
        }

        private void addLastPart() {
            base.reachToEnd();
            ours.reachToEnd();
            theirs.reachToEnd();
            addPart();
        }

        private void addPart() {
            if (ours.isAs(base)) {
                addBytes(theirs.firstByte(), theirs.byteBehind());
            } else if (theirs.isAs(base) || theirs.isAs(ours)) {
                addBytes(ours.firstByte(), ours.byteBehind());
            } else {
                conflict = true;
                addMark(OURS_MARK);
                addBytes(ours.firstByte(), ours.byteBehind());
                endLine();
                addMark(MIDDLE_MARK);
                addBytes(theirs.firstByte(), theirs.byteBehind());
                endLine();
                addMark(THEIRS_MARK);
            }
        }

        // Behind an empty part nothing is added, as the mark before it ends with an lf.
        private void endLine() {
            if (length > 0 && text[length - 1] != LF) {
                addByte(LF);
            }
        }

        private void addMark(String mark) {
            for (int k = 0; k < mark.length(); k++) {
                addByte(mark.charAt(k));
            }
        }

        private void addByte(int added) {
            if (length >= MAX_MERGED_BYTES) {
                tooLong = true;
                return;
            }
            text[length] = (byte) added;
            length++;
        }

        private void addBytes(int start, int end) {
            if (length + end - start > MAX_MERGED_BYTES) {
                tooLong = true;
                return;
            }
            System.arraycopy(blobs.bytes(), start, text, length, end - start);
            length += end - start;
        }
    }

    /** What a MERGING gave, with PATHS and TEXTS of its own, as the MAPS may change behind it. */
    private static final class Outcomes {
        private static final int STAGES = 3;

        private final Blobs blobs;
        // To each PATH the number of its record; the rows below go by records.
        private final PathMap places = new PathMap();
        private final boolean[] unmerged = new boolean[MAX_PATHS];
        // BLOBS of base, ours and theirs, or NONE, of every record.
        private final int[] sources = new int[MAX_PATHS * STAGES];
        private final int[] textBlobs = new int[MAX_PATHS];
        private final int[] textStarts = new int[MAX_PATHS];
        private final int[] textLengths = new int[MAX_PATHS];
        private final byte[] mergedBytes = new byte[MAX_MERGED_BYTES];
        private int mergedLength;
        private int unmergedCount;

        Outcomes(Blobs blobs) {
            this.blobs = blobs;
        }

        int size() {
            return places.size();
        }

        boolean has(int i) {
            return places.has(i);
        }

        int unmergedCount() {
            return unmergedCount;
        }

        int pathLength(int i) {
            return places.lengthOf(i);
        }

        int pathByte(int i, int k) {
            return places.letterAt(i, k);
        }

        boolean isUnmerged(int i) {
            return unmerged[places.valueAt(i)];
        }

        int stageOf(int i, int side) {
            return isUnmerged(i) ? sourceOf(places.valueAt(i), side) : NONE;
        }

        int blobOf(int i) {
            return textBlobs[places.valueAt(i)];
        }

        int textLength(int i) {
            int record = places.valueAt(i);
            return textBlobs[record] >= 0 ? blobs.lengthOf(textBlobs[record]) : textLengths[record];
        }

        int textByte(int i, int k) {
            int record = places.valueAt(i);
            if (textBlobs[record] >= 0) {
                return blobs.byteAt(textBlobs[record], k);
            }
            return mergedBytes[textStarts[record] + k] & 255;
        }

        void clear() {
            places.clear();
            mergedLength = 0;
            unmergedCount = 0;
        }

        /** A new record at PATH i of the MAP, without a TEXT yet; NONE if there's one, or the PATH would not FIT. */
        int open(PathMap map, int i) {
            int record = places.size();
            if (!places.addPathOf(map, i, record)) {
                return NONE;
            }
            unmerged[record] = false;
            textBlobs[record] = NONE;
            return record;
        }

        void setSources(int record, int baseBlob, int oursBlob, int theirsBlob) {
            sources[record * STAGES + BASE] = baseBlob;
            sources[record * STAGES + OURS] = oursBlob;
            sources[record * STAGES + THEIRS] = theirsBlob;
        }

        int sourceOf(int record, int side) {
            return sources[record * STAGES + side];
        }

        void setUnmerged(int record) {
            if (!unmerged[record]) {
                unmerged[record] = true;
                unmergedCount++;
            }
        }

        boolean recordIsUnmerged(int record) {
            return unmerged[record];
        }

        void setBlob(int record, int number) {
            textBlobs[record] = number;
        }

        boolean keepText(int record, byte[] text, int length) {
            if (mergedLength + length > MAX_MERGED_BYTES) {
                return false;
            }
            System.arraycopy(text, 0, mergedBytes, mergedLength, length);
            textStarts[record] = mergedLength;
            textLengths[record] = length;
            mergedLength += length;
            return true;
        }
    }

    /** MERGING; it writes into spare rows, so that a REFUSED one leaves the latest OUTCOMES alone. */
    private static final class Merging {
        // Each group has a PATH of ours or of theirs that no other group has, or is one of base's.
        private static final int MAX_GROUPS = MAP_COUNT * MAX_PATHS;

        private final PathMap base;
        private final PathMap ours;
        private final PathMap theirs;
        private final Blobs blobs;
        private final Renames toOurs;
        private final Renames toTheirs;
        private final boolean[] oursUsed = new boolean[MAX_PATHS];
        private final boolean[] theirsUsed = new boolean[MAX_PATHS];
        // The document's p, a and b of each group, NONE for one that isn't there.
        private final int[] groupsP = new int[MAX_GROUPS];
        private final int[] groupsA = new int[MAX_GROUPS];
        private final int[] groupsB = new int[MAX_GROUPS];
        private final TextMerger merger;
        private int groupCount;
        private Outcomes latest;
        private Outcomes spare;

        Merging(PathMap base, PathMap ours, PathMap theirs, Blobs blobs) {
            this.base = base;
            this.ours = ours;
            this.theirs = theirs;
            this.blobs = blobs;
            toOurs = new Renames(blobs);
            toTheirs = new Renames(blobs);
            merger = new TextMerger(blobs);
            latest = new Outcomes(blobs);
            spare = new Outcomes(blobs);
        }

        Outcomes latestOutcomes() {
            return latest;
        }

        /** How many OUTCOMES are UNMERGED, or REFUSED. */
        int mergeMaps() {
            toOurs.search(base, ours);
            toTheirs.search(base, theirs);
            listGroups();
            spare.clear();
            for (int g = 0; g < groupCount; g++) {
                if (!addGroup(groupsP[g], groupsA[g], groupsB[g])) {
                    return REFUSED;
                }
            }
            int records = spare.size();
            for (int record = 0; record < records; record++) {
                if (!giveText(record)) {
                    return REFUSED;
                }
            }
            Outcomes old = latest;
            latest = spare;
            spare = old;
            return latest.unmergedCount();
        }

        private void listGroups() {
            groupCount = 0;
            for (int i = 0; i < MAX_PATHS; i++) {
                oursUsed[i] = false;
                theirsUsed[i] = false;
            }
            for (int p = 0; p < base.size(); p++) {
                listGroup(p, toOurs.partnerOf(p), toTheirs.partnerOf(p));
            }
            for (int a = 0; a < ours.size(); a++) {
                if (!oursUsed[a]) {
                    int b = theirs.findPathOf(ours, a);
                    listGroup(NONE, a, b >= 0 && !theirsUsed[b] ? b : NONE);
                }
            }
            for (int b = 0; b < theirs.size(); b++) {
                if (!theirsUsed[b]) {
                    listGroup(NONE, NONE, b);
                }
            }
        }

        private void listGroup(int p, int a, int b) {
            groupsP[groupCount] = p;
            groupsA[groupCount] = a;
            groupsB[groupCount] = b;
            groupCount++;
            if (a >= 0) {
                oursUsed[a] = true;
            }
            if (b >= 0) {
                theirsUsed[b] = true;
            }
        }

        private boolean addGroup(int p, int a, int b) {
            int baseBlob = p < 0 ? NONE : base.valueAt(p);
            int oursBlob = a < 0 ? NONE : ours.valueAt(a);
            int theirsBlob = b < 0 ? NONE : theirs.valueAt(b);
            boolean oursStayed = isPathOfBase(p, ours, a);
            boolean theirsStayed = isPathOfBase(p, theirs, b);
            boolean oursUntouched = a < 0 || oursStayed && oursBlob == baseBlob;
            boolean theirsUntouched = b < 0 || theirsStayed && theirsBlob == baseBlob;
            boolean both = a >= 0 && b >= 0;
            if (!both && oursUntouched && theirsUntouched) {
                return true;
            }
            boolean apart = both && ours.comparePaths(a, theirs, b) != 0;
            boolean atTheirs = a < 0 || apart && oursStayed;
            int record = atTheirs ? spare.open(theirs, b) : spare.open(ours, a);
            if (record < 0) {
                return false;
            }
            spare.setSources(record, baseBlob, oursBlob, theirsBlob);
            if (both ? apart && !oursStayed && !theirsStayed : p >= 0) {
                spare.setUnmerged(record);
            }
            return true;
        }

        private boolean isPathOfBase(int p, PathMap side, int i) {
            return p >= 0 && i >= 0 && base.comparePaths(p, side, i) == 0;
        }

        private boolean giveText(int record) {
            int baseBlob = spare.sourceOf(record, BASE);
            int oursBlob = spare.sourceOf(record, OURS);
            int theirsBlob = spare.sourceOf(record, THEIRS);
            int chosen = chooseBlob(baseBlob, oursBlob, theirsBlob);
            if (chosen >= 0) {
                spare.setBlob(record, chosen);
                return true;
            }
            merger.mergeTexts(baseBlob, oursBlob, theirsBlob);
            if (merger.hasConflict()) {
                spare.setUnmerged(record);
            }
            return giveMergedText(record);
        }

        /** The BLOB that is taken as it is; NONE if the TEXTS must be merged. */
        private static int chooseBlob(int baseBlob, int oursBlob, int theirsBlob) {
            if (oursBlob < 0) {
                return theirsBlob;
            }
            if (theirsBlob < 0 || theirsBlob == oursBlob || theirsBlob == baseBlob) {
                return oursBlob;
            }
            return oursBlob == baseBlob ? theirsBlob : NONE;
        }

        private boolean giveMergedText(int record) {
            if (!spare.recordIsUnmerged(record)) {
                int same = blobs.find(merger.text(), 0, merger.length());
                if (same >= 0) {
                    spare.setBlob(record, same);
                    return true;
                }
            }
            return spare.keepText(record, merger.text(), merger.length());
        }
    }
}
