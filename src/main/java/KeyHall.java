/**
 * Things found by keys of more than one part: counts by pairs, in no order, in the order of coming, and rising;
 * lines by words; marked points; and a table of rows of its own, each rising.
 *
 * <p>Every key is packed into one long whose order is the order of the key, so that one kind of sorted row serves
 * pairs, words, points and the table alike.
 */
public final class KeyHall {
    public static final int REFUSED = -1, FULL = -3;

    private static final long NOTHING = 1L << 62;

    // The document promises nothing after so many calls, and no call brings more than one thing to a row.
    private static final int CALLS = 512;

    private static final int STEP_LIMIT = 60;

    // A step leaves only points with two marked ones around them or more, and a marked one is around eight.
    private static final int POINT_ROOM = STEP_LIMIT * 8 / 2 + CALLS;

    private static final int TAPE_ROOM = 12;
    private static final int LETTER_BITS = 5;
    private static final long LETTER_MASK = (1L << LETTER_BITS) - 1;

    // The letter a is 1, so that 0 is a place without a sign, which comes before all letters.
    private static final int BEFORE_A = 'a' - 1;

    private static final long EMPTY_TAPE = 0;

    private static final int SECOND_BITS = 32;
    private static final int LEAST_INT = -2147483648;
    private static final int GREATEST_INT = 2147483647;

    private final Sorted counts = new Sorted(CALLS);
    private final Sorted coming = new Sorted(CALLS);
    private final Sorted rising = new Sorted(CALLS);
    private final Sorted lines = new Sorted(CALLS);
    private final Sorted table = new Sorted(CALLS);
    private Sorted points = new Sorted(POINT_ROOM);
    private Sorted tally = new Sorted(POINT_ROOM);
    private long tape = EMPTY_TAPE;

    // The keys of COMING: they only grow, so that its pairs, the values, stay in the order in which they came.
    private long turn = 0;

    /** The sort is not looked at: pairs are found by their order here, not by a hash. */
    public KeyHall(int sort) {
    }

    public long add(int a, int b, int by) {
        return counts.raise(pairKey(a, b), by);
    }

    public long count(int a, int b) {
        return counts.valueAt(counts.find(pairKey(a, b)));
    }

    public long drop(int a, int b) {
        return counts.takeAt(counts.find(pairKey(a, b)));
    }

    public long total() {
        long sum = 0;
        for (int i = 0; i < counts.held(); i++) {
            long key = counts.keyAt(i);
            sum += (31L * firstOf(key) + secondOf(key)) * counts.valueAt(i);
        }
        return sum;
    }

    public int sweep() {
        int before = counts.held();
        int kept = 0;
        for (int i = 0; i < before; i++) {
            if (!hasEvenSum(counts.keyAt(i))) {
                counts.move(i, kept);
                kept++;
            }
        }
        counts.shorten(kept);
        return before - kept;
    }

    public boolean come(int a, int b) {
        long pair = pairKey(a, b);
        if (coming.findValue(pair) >= 0) {
            return false;
        }
        coming.store(turn, pair);
        turn++;
        return true;
    }

    public boolean leave(int a, int b) {
        int at = coming.findValue(pairKey(a, b));
        coming.takeAt(at);
        return at >= 0;
    }

    public long comer(int k, boolean second) {
        if (k < 0 || k >= coming.held()) {
            return NOTHING;
        }
        long pair = coming.valueAt(k);
        return second ? secondOf(pair) : firstOf(pair);
    }

    public int retain() {
        int kept = 0;
        for (int i = 0; i < coming.held(); i++) {
            if (counts.holds(coming.valueAt(i))) {
                coming.move(i, kept);
                kept++;
            }
        }
        coming.shorten(kept);
        return kept;
    }

    public long rank(int a, int b, int v) {
        return rising.store(pairKey(a, b), v);
    }

    public long near(int a, int b, boolean down, boolean same) {
        long pair = pairKey(a, b);
        // The pair itself is left of the border if it may be told going down, or may not be told going up.
        int border = down == same ? rising.upTo(pair) : rising.below(pair);
        int i = down ? border - 1 : border;
        if (i < 0 || i >= rising.held()) {
            return NOTHING;
        }
        long found = rising.keyAt(i);
        return firstOf(found) * (1L << 31) + secondOf(found);
    }

    public long poll(boolean last) {
        return rising.takeAt(last ? rising.held() - 1 : 0);
    }

    public int between(int a, int b, int c, int d) {
        long from = pairKey(a, b);
        long to = pairKey(c, d);
        if (to < from) {
            return REFUSED;
        }
        return rising.below(to) - rising.below(from);
    }

    public int sign(int letter) {
        if (letter < 'a' || letter > 'z') {
            return REFUSED;
        }
        int signs = signsOf(tape);
        if (signs >= TAPE_ROOM) {
            return FULL;
        }
        tape += (long) (letter - BEFORE_A) << placeOf(signs);
        return signs + 1;
    }

    public int erase() {
        return signsOf(takeTape());
    }

    public int line(int n) {
        long word = takeTape();
        if (word == EMPTY_TAPE) {
            return REFUSED;
        }
        lines.insert(lines.upTo(word), word, n);
        return lines.upTo(word) - lines.below(word);
    }

    public long read(int k) {
        long word = takeTape();
        int from = lines.below(word);
        int there = lines.upTo(word) - from;
        return k >= 0 && k < there ? lines.valueAt(from + k) : NOTHING;
    }

    public int next() {
        int i = lines.upTo(tape);
        tape = i < lines.held() ? lines.keyAt(i) : EMPTY_TAPE;
        return signsOf(tape);
    }

    public int letter(int k) {
        if (k < 0 || k >= signsOf(tape)) {
            return REFUSED;
        }
        return BEFORE_A + signAt(tape, k);
    }

    public int forget() {
        long word = takeTape();
        int from = lines.below(word);
        int to = lines.upTo(word);
        if (from >= to) {
            return REFUSED;
        }
        lines.takeOut(from, to);
        return to - from;
    }

    public int mark(int x, int y) {
        long point = pairKey(x, y);
        int at = points.find(point);
        if (at < 0) {
            points.store(point, 0);
        } else {
            points.takeAt(at);
        }
        return points.held();
    }

    public int around(int x, int y) {
        int marked = 0;
        for (int dx = -1; dx <= 1; dx++) {
            for (int dy = -1; dy <= 1; dy++) {
                if ((dx != 0 || dy != 0) && points.holds(pairKey(x + dx, y + dy))) {
                    marked++;
                }
            }
        }
        return marked;
    }

    public int step() {
        if (points.held() > STEP_LIMIT) {
            return REFUSED;
        }
        tallyAllAround();
        int kept = 0;
        for (int i = 0; i < tally.held(); i++) {
            if (isMarkedThen(tally.keyAt(i), tally.valueAt(i))) {
                tally.move(i, kept);
                kept++;
            }
        }
        tally.shorten(kept);
        Sorted before = points;
        points = tally;
        tally = before;
        return points.held();
    }

    public long put(int r, int c, int v) {
        return table.store(pairKey(r, c), v);
    }

    public long get(int r, int c) {
        return table.valueAt(table.find(pairKey(r, c)));
    }

    public long end(int r) {
        int i = table.upTo(pairKey(r, GREATEST_INT)) - 1;
        if (i < 0 || firstOf(table.keyAt(i)) != r) {
            return NOTHING;
        }
        return secondOf(table.keyAt(i));
    }

    public int cut(int r, int c) {
        table.takeAt(table.find(pairKey(r, c)));
        return table.groups(SECOND_BITS);
    }

    public int size(int what) {
        switch (what) {
            case 0:
                return counts.held();
            case 1:
                return coming.held();
            case 2:
                return rising.held();
            case 3:
                return lines.groups(0);
            case 4:
                return points.held();
            case 5:
                return table.groups(SECOND_BITS);
            case 6:
                return table.held();
            default:
                return REFUSED;
        }
    }

    // The second part is counted from the least int, so that negative ones stay below the others in the key.
    private static long pairKey(int first, int second) {
        return ((long) first << SECOND_BITS) + ((long) second - LEAST_INT);
    }

    private static int firstOf(long key) {
        return (int) (key >> SECOND_BITS);
    }

    private static int secondOf(long key) {
        return (int) key + LEAST_INT;
    }

    private static boolean hasEvenSum(long key) {
        return ((firstOf(key) + secondOf(key)) & 1) == 0;
    }

    // The first sign stands highest, so that words have the order of texts.
    private static int placeOf(int k) {
        return LETTER_BITS * (TAPE_ROOM - 1 - k);
    }

    private static int signAt(long word, int k) {
        return (int) (word >> placeOf(k) & LETTER_MASK);
    }

    private static int signsOf(long word) {
        int signs = 0;
        while (signs < TAPE_ROOM && signAt(word, signs) != 0) {
            signs++;
        }
        return signs;
    }

    private long takeTape() {
        long word = tape;
        tape = EMPTY_TAPE;
        return word;
    }

    private void tallyAllAround() {
        tally.shorten(0);
        for (int i = 0; i < points.held(); i++) {
            long point = points.keyAt(i);
            tallyAround(firstOf(point), secondOf(point));
        }
    }

    private void tallyAround(int x, int y) {
        for (int dx = -1; dx <= 1; dx++) {
            for (int dy = -1; dy <= 1; dy++) {
                if (dx != 0 || dy != 0) {
                    tally.raise(pairKey(x + dx, y + dy), 1);
                }
            }
        }
    }

    private boolean isMarkedThen(long point, long markedAround) {
        return markedAround == 3 || (markedAround == 2 && points.holds(point));
    }

    /** Keys with a value each, rising by key; a key that stands more than once keeps its values as they came. */
    private static final class Sorted {
        private static final int WIDEST_JUMP = 512;

        // The jumps of a search add up to this: keys further up would not be found.
        private static final int LARGEST_ROOM = 2 * WIDEST_JUMP - 1;

        private static final long GREATEST_KEY = 9223372036854775807L;

        private final long[] keys;
        private final long[] values;
        private int held = 0;

        Sorted(int room) {
            int length = Math.max(0, Math.min(room, LARGEST_ROOM));
            keys = new long[length];
            values = new long[length];
        }

        int held() {
            return held;
        }

        int below(long key) {
            int found = 0;
            for (int jump = WIDEST_JUMP; jump > 0; jump >>= 1) {
                if (found + jump <= held && keys[found + jump - 1] < key) {
                    found += jump;
                }
            }
            return found;
        }

        int upTo(long key) {
            return key == GREATEST_KEY ? held : below(key + 1);
        }

        /** Where the key stands, or -1: valueAt and takeAt answer NOTHING there. */
        int find(long key) {
            int at = below(key);
            return isKeyAt(at, key) ? at : -1;
        }

        boolean holds(long key) {
            return find(key) >= 0;
        }

        int findValue(long value) {
            for (int i = 0; i < held; i++) {
                if (values[i] == value) {
                    return i;
                }
            }
            return -1;
        }

        long keyAt(int at) {
            return isInside(at) ? keys[at] : NOTHING;
        }

        long valueAt(int at) {
            return isInside(at) ? values[at] : NOTHING;
        }

        long store(long key, long value) {
            int at = below(key);
            if (!isKeyAt(at, key)) {
                insert(at, key, value);
                return NOTHING;
            }
            long before = values[at];
            values[at] = value;
            return before;
        }

        long raise(long key, long by) {
            int at = below(key);
            if (!isKeyAt(at, key)) {
                insert(at, key, by);
                return by;
            }
            values[at] += by;
            return values[at];
        }

        void insert(int at, long key, long value) {
            if (at < 0 || at > held || held >= keys.length) {
                return;
            }
            System.arraycopy(keys, at, keys, at + 1, held - at);
            System.arraycopy(values, at, values, at + 1, held - at);
            keys[at] = key;
            values[at] = value;
            held++;
        }

        long takeAt(int at) {
            long value = valueAt(at);
            takeOut(at, at + 1);
            return value;
        }

        void takeOut(int from, int to) {
            if (from < 0 || to <= from || to > held) {
                return;
            }
            System.arraycopy(keys, to, keys, from, held - to);
            System.arraycopy(values, to, values, from, held - to);
            held -= to - from;
        }

        void move(int from, int to) {
            if (isInside(from) && isInside(to)) {
                keys[to] = keys[from];
                values[to] = values[from];
            }
        }

        void shorten(int length) {
            if (length >= 0 && length < held) {
                held = length;
            }
        }

        /** How many different keys there are when so many of their lowest bits do not count. */
        int groups(int bits) {
            int groups = 0;
            for (int i = 0; i < held; i++) {
                if (i == 0 || keys[i] >> bits != keys[i - 1] >> bits) {
                    groups++;
                }
            }
            return groups;
        }

        private boolean isInside(int at) {
            return at >= 0 && at < held;
        }

        private boolean isKeyAt(int at, long key) {
            return isInside(at) && keys[at] == key;
        }
    }
}
