/** Each promise of the document by hand: ordinary inputs, the edges that it names, and wrong inputs. */
public final class KeyHallPromises {
    private static final long NOTHING = 4611686018427387904L;
    private static final int MIN = Integer.MIN_VALUE;
    private static final int MAX = Integer.MAX_VALUE;

    private static int wrong = 0;

    private static void due(int promise, String call, long got, long want) {
        if (got != want) {
            wrong++;
            System.out.println("promise " + promise + ": " + call + " answered " + got + ", due is " + want);
        }
    }

    private static void due(int promise, String call, boolean got, boolean want) {
        due(promise, call, got ? 1L : 0L, want ? 1L : 0L);
    }

    public static void main(String[] args) {
        newObject();
        sortsTellTheSame();
        addAndCount();
        drop();
        total();
        sweep();
        comeAndLeave();
        comer();
        retain();
        rank();
        near();
        nearAtTheEdges();
        poll();
        between();
        sign();
        erase();
        line();
        read();
        next();
        nextTakesTextOrder();
        letter();
        forget();
        mark();
        around();
        step();
        stepLimit();
        stepWraps();
        putAndGet();
        end();
        cut();
        size();
        sizeOfAlikeWords();
        fullRows();
        partsAreApart();
        System.out.println(wrong == 0 ? "all promises hold" : wrong + " answers are not as due");
        if (wrong != 0) {
            System.exit(1);
        }
    }

    private static void newObject() {
        KeyHall x = new KeyHall(0);
        for (int what = 0; what <= 6; what++) {
            due(1, "size(" + what + ") of a new object", x.size(what), 0);
        }
        due(1, "total() of a new object", x.total(), 0);
        due(1, "sweep() of a new object", x.sweep(), 0);
        due(1, "retain() of a new object", x.retain(), 0);
        due(1, "erase() of a new object", x.erase(), 0);
        due(1, "step() of a new object", x.step(), 0);
        due(1, "REFUSED", KeyHall.REFUSED, -1);
        due(1, "FULL", KeyHall.FULL, -3);
    }

    private static void sortsTellTheSame() {
        for (int sort : new int[] {0, 1, 2, 3, 4, -1, MAX, MIN}) {
            KeyHall x = new KeyHall(sort);
            // Pairs that many usual hashes do not tell apart.
            due(1, "add(0, 31, 1), sort " + sort, x.add(0, 31, 1), 1);
            due(1, "add(1, 0, 2), sort " + sort, x.add(1, 0, 2), 2);
            due(1, "add(31, 0, 3), sort " + sort, x.add(31, 0, 3), 3);
            due(1, "add(0, 1, 4), sort " + sort, x.add(0, 1, 4), 4);
            due(1, "count(0, 31), sort " + sort, x.count(0, 31), 1);
            due(1, "count(1, 0), sort " + sort, x.count(1, 0), 2);
            due(1, "size(0), sort " + sort, x.size(0), 4);
            due(1, "total(), sort " + sort, x.total(), 31 + 62 + 31 * 31 * 3 + 4);
        }
    }

    private static void addAndCount() {
        KeyHall x = new KeyHall(0);
        due(3, "count(1, 2) without a count", x.count(1, 2), NOTHING);
        due(2, "add(1, 2, 5)", x.add(1, 2, 5), 5);
        due(2, "add(1, 2, -7)", x.add(1, 2, -7), -2);
        due(3, "count(1, 2)", x.count(1, 2), -2);
        due(3, "count(2, 1)", x.count(2, 1), NOTHING);
        due(2, "size(0) after two adds to one pair", x.size(0), 1);
        due(2, "add(3, 3, 0)", x.add(3, 3, 0), 0);
        due(3, "count(3, 3), which is 0", x.count(3, 3), 0);
        due(2, "size(0) with a count of 0", x.size(0), 2);
        due(2, "add(-1, -1, MAX)", x.add(-1, -1, MAX), MAX);
        due(2, "add(-1, -1, MAX) again", x.add(-1, -1, MAX), 2L * MAX);
        due(2, "add(MIN, MAX, MIN)", x.add(MIN, MAX, MIN), MIN);
        due(2, "add(MIN, MAX, MIN) again", x.add(MIN, MAX, MIN), 2L * MIN);
        due(2, "add(MAX, MIN, 1)", x.add(MAX, MIN, 1), 1);
        due(3, "count(MIN, MAX)", x.count(MIN, MAX), 2L * MIN);
        due(3, "count(MAX, MIN)", x.count(MAX, MIN), 1);
        due(3, "count(MAX, MAX)", x.count(MAX, MAX), NOTHING);
        due(3, "size(0) after counts were told", x.size(0), 5);
    }

    private static void drop() {
        KeyHall x = new KeyHall(0);
        due(4, "drop(1, 1) without a count", x.drop(1, 1), NOTHING);
        x.add(1, 1, 4);
        x.add(1, 2, 5);
        x.add(0, 9, 6);
        due(4, "drop(1, 1)", x.drop(1, 1), 4);
        due(4, "drop(1, 1) again", x.drop(1, 1), NOTHING);
        due(4, "count(1, 1) after drop", x.count(1, 1), NOTHING);
        due(4, "count(1, 2) after drop(1, 1)", x.count(1, 2), 5);
        due(4, "count(0, 9) after drop(1, 1)", x.count(0, 9), 6);
        due(4, "size(0) after drop", x.size(0), 2);
        due(4, "add(1, 1, 3) after drop", x.add(1, 1, 3), 3);
        x.add(7, 7, 0);
        due(4, "drop(7, 7), which is 0", x.drop(7, 7), 0);
    }

    private static void total() {
        KeyHall x = new KeyHall(0);
        x.add(2, 3, 10);
        due(5, "total() of one count", x.total(), 650);
        x.add(-1, 4, 7);
        due(5, "total() of two counts", x.total(), 650 - 189);
        x.add(5, 5, 0);
        due(5, "total() with a count of 0", x.total(), 461);
        x.drop(2, 3);
        due(5, "total() after drop", x.total(), -189);

        KeyHall wide = new KeyHall(0);
        wide.add(MAX, MAX, MAX);
        due(5, "total(): 31 a + b does not wrap as an int", wide.total(), 32L * MAX * MAX);
        for (int i = 0; i < 99; i++) {
            wide.add(MAX, MAX, MAX);
        }
        due(5, "total() wraps as a long", wide.total(), 32L * MAX * (100L * MAX));
    }

    private static void sweep() {
        KeyHall x = new KeyHall(0);
        x.add(1, 1, 5);
        x.add(1, 2, 6);
        x.add(-1, 2, 7);
        x.add(-3, 1, 8);
        x.add(0, 0, 0);
        x.add(MAX, MAX, 9);
        x.add(MAX, MIN, 10);
        due(6, "sweep()", x.sweep(), 4);
        due(6, "size(0) after sweep", x.size(0), 3);
        due(6, "count(1, 1) after sweep", x.count(1, 1), NOTHING);
        due(6, "count(-3, 1) after sweep", x.count(-3, 1), NOTHING);
        due(6, "count(0, 0) after sweep", x.count(0, 0), NOTHING);
        due(6, "count(MAX, MAX) after sweep", x.count(MAX, MAX), NOTHING);
        due(6, "count(1, 2) after sweep", x.count(1, 2), 6);
        due(6, "count(-1, 2) after sweep", x.count(-1, 2), 7);
        due(6, "count(MAX, MIN) after sweep", x.count(MAX, MIN), 10);
        due(6, "sweep() again", x.sweep(), 0);
        due(6, "size(0) after a sweep of nothing", x.size(0), 3);
    }

    private static void comeAndLeave() {
        KeyHall x = new KeyHall(0);
        due(8, "leave(1, 2) of nothing", x.leave(1, 2), false);
        due(7, "come(1, 2)", x.come(1, 2), true);
        due(7, "come(1, 2) again", x.come(1, 2), false);
        due(7, "come(2, 1)", x.come(2, 1), true);
        due(7, "come(0, 0)", x.come(0, 0), true);
        due(7, "size(1)", x.size(1), 3);
        due(7, "the pair behind all", x.comer(2, false), 0);
        due(8, "leave(1, 2)", x.leave(1, 2), true);
        due(8, "leave(1, 2) again", x.leave(1, 2), false);
        due(8, "size(1) after leave", x.size(1), 2);
        due(8, "comer(0, false) after leave", x.comer(0, false), 2);
        due(8, "comer(1, false) after leave", x.comer(1, false), 0);
        due(7, "come(1, 2) after leave", x.come(1, 2), true);
        due(7, "it comes behind all", x.comer(2, false), 1);
        due(8, "leave of the last", x.leave(1, 2), true);
        due(8, "size(1) after the last left", x.size(1), 2);
        due(7, "come does not count", x.count(2, 1), NOTHING);
    }

    private static void comer() {
        KeyHall x = new KeyHall(0);
        due(9, "comer(0, false) of nothing", x.comer(0, false), NOTHING);
        due(9, "comer(0, true) of nothing", x.comer(0, true), NOTHING);
        x.come(5, -6);
        x.come(MIN, MAX);
        x.come(-1, 0);
        // This pair's packed key is 2^62, the number that stands for NOTHING.
        x.come(1 << 30, MIN);
        due(9, "comer(0, false)", x.comer(0, false), 5);
        due(9, "comer(0, true)", x.comer(0, true), -6);
        due(9, "comer(1, false)", x.comer(1, false), MIN);
        due(9, "comer(1, true)", x.comer(1, true), MAX);
        due(9, "comer(2, false)", x.comer(2, false), -1);
        due(9, "comer(2, true)", x.comer(2, true), 0);
        due(9, "comer(3, false)", x.comer(3, false), 1 << 30);
        due(9, "comer(3, true)", x.comer(3, true), MIN);
        due(9, "comer(4, false)", x.comer(4, false), NOTHING);
        due(9, "comer(-1, true)", x.comer(-1, true), NOTHING);
        due(9, "comer(MAX, false)", x.comer(MAX, false), NOTHING);
        due(9, "comer(MIN, false)", x.comer(MIN, false), NOTHING);
    }

    private static void retain() {
        KeyHall x = new KeyHall(0);
        x.come(3, 3);
        x.come(1, 1);
        x.come(2, 2);
        x.come(0, 0);
        x.add(2, 2, 0);
        x.add(3, 3, 5);
        x.add(9, 9, 5);
        due(10, "retain()", x.retain(), 2);
        due(10, "size(1) after retain", x.size(1), 2);
        due(10, "comer(0, false) after retain", x.comer(0, false), 3);
        due(10, "comer(1, false), whose count is 0", x.comer(1, false), 2);
        due(10, "comer(2, false) after retain", x.comer(2, false), NOTHING);
        due(10, "size(0) after retain", x.size(0), 3);
        due(10, "come(1, 1) after retain", x.come(1, 1), true);
        due(10, "comer(2, false) after come", x.comer(2, false), 1);
        x.drop(3, 3);
        due(10, "retain() after drop", x.retain(), 1);
        x.drop(2, 2);
        due(10, "retain() without counts for any", x.retain(), 0);
    }

    private static void rank() {
        KeyHall x = new KeyHall(0);
        due(11, "rank(1, 2, 3)", x.rank(1, 2, 3), NOTHING);
        due(11, "rank(1, 2, MIN)", x.rank(1, 2, MIN), 3);
        due(11, "rank(1, 2, 0)", x.rank(1, 2, 0), MIN);
        due(11, "rank(1, 2, 7)", x.rank(1, 2, 7), 0);
        due(11, "rank(2, 1, 8)", x.rank(2, 1, 8), NOTHING);
        due(11, "size(2)", x.size(2), 2);
        due(11, "poll(false)", x.poll(false), 7);
    }

    private static void near() {
        KeyHall x = new KeyHall(0);
        due(12, "near(0, 0, false, true) of nothing", x.near(0, 0, false, true), NOTHING);
        due(12, "near(0, 0, true, true) of nothing", x.near(0, 0, true, true), NOTHING);
        x.rank(1, 5, 0);
        x.rank(1, -5, 0);
        x.rank(-2, 9, 0);
        x.rank(3, 0, 0);
        due(12, "near(1, 5, false, false)", x.near(1, 5, false, false), told(3, 0));
        due(12, "near(1, 5, false, true)", x.near(1, 5, false, true), told(1, 5));
        due(12, "near(1, 5, true, false)", x.near(1, 5, true, false), told(1, -5));
        due(12, "near(1, 5, true, true)", x.near(1, 5, true, true), told(1, 5));
        due(12, "near(1, 0, false, false)", x.near(1, 0, false, false), told(1, 5));
        due(12, "near(1, 0, false, true)", x.near(1, 0, false, true), told(1, 5));
        due(12, "near(1, 0, true, false)", x.near(1, 0, true, false), told(1, -5));
        due(12, "near(1, 0, true, true)", x.near(1, 0, true, true), told(1, -5));
        due(12, "near(0, 0, true, true)", x.near(0, 0, true, true), told(-2, 9));
        due(12, "near(3, 0, false, false)", x.near(3, 0, false, false), NOTHING);
        due(12, "near(3, 1, false, true)", x.near(3, 1, false, true), NOTHING);
        due(12, "near(-2, 9, true, false)", x.near(-2, 9, true, false), NOTHING);
        due(12, "near(-2, 8, true, true)", x.near(-2, 8, true, true), NOTHING);
        due(12, "size(2) after near", x.size(2), 4);
    }

    private static void nearAtTheEdges() {
        KeyHall x = new KeyHall(0);
        x.rank(MAX, MAX, 1);
        x.rank(MIN, MIN, 2);
        x.rank(1 << 30, MIN, 3);
        due(12, "near(MAX, MAX, false, false)", x.near(MAX, MAX, false, false), NOTHING);
        due(12, "near(MAX, MAX, false, true)", x.near(MAX, MAX, false, true), 4611686018427387903L);
        due(12, "near(MAX, MAX, true, true)", x.near(MAX, MAX, true, true), 4611686018427387903L);
        due(12, "near(MAX, MAX, true, false)", x.near(MAX, MAX, true, false), told(1 << 30, MIN));
        due(12, "near(MIN, MIN, true, false)", x.near(MIN, MIN, true, false), NOTHING);
        due(12, "near(MIN, MIN, true, true)", x.near(MIN, MIN, true, true), -4611686020574871552L);
        due(12, "near(MIN, MIN, false, true)", x.near(MIN, MIN, false, true), -4611686020574871552L);
        due(12, "near(MIN, MIN, false, false)", x.near(MIN, MIN, false, false), told(1 << 30, MIN));
    }

    private static long told(long a, long b) {
        return a * 2147483648L + b;
    }

    private static void poll() {
        KeyHall x = new KeyHall(0);
        due(13, "poll(false) of nothing", x.poll(false), NOTHING);
        due(13, "poll(true) of nothing", x.poll(true), NOTHING);
        x.rank(2, 0, 20);
        x.rank(1, 9, 19);
        x.rank(1, -9, 11);
        x.rank(-1, 0, -10);
        due(13, "poll(false)", x.poll(false), -10);
        due(13, "poll(true)", x.poll(true), 20);
        due(13, "size(2) after two polls", x.size(2), 2);
        due(13, "near(MIN, MIN, false, true)", x.near(MIN, MIN, false, true), told(1, -9));
        due(13, "near(MAX, MAX, true, true)", x.near(MAX, MAX, true, true), told(1, 9));
        due(13, "poll(true) again", x.poll(true), 19);
        due(13, "poll(false) again", x.poll(false), 11);
        due(13, "poll(false) when all are gone", x.poll(false), NOTHING);
    }

    private static void between() {
        KeyHall x = new KeyHall(0);
        due(14, "between of nothing", x.between(MIN, MIN, MAX, MAX), 0);
        x.rank(0, 0, 1);
        x.rank(0, 5, 1);
        x.rank(1, -5, 1);
        x.rank(2, 2, 1);
        x.rank(MAX, MAX, 1);
        due(14, "between(0, 0, 2, 2)", x.between(0, 0, 2, 2), 3);
        due(14, "between(0, 1, 2, 3)", x.between(0, 1, 2, 3), 3);
        due(14, "between(0, 0, 0, 0)", x.between(0, 0, 0, 0), 0);
        due(14, "between(0, 0, 0, 1)", x.between(0, 0, 0, 1), 1);
        due(14, "between(0, 6, 1, -5)", x.between(0, 6, 1, -5), 0);
        due(14, "between(MIN, MIN, MAX, MAX)", x.between(MIN, MIN, MAX, MAX), 4);
        due(14, "between(MAX, MAX, MAX, MAX)", x.between(MAX, MAX, MAX, MAX), 0);
        due(14, "between(0, 1, 0, 0)", x.between(0, 1, 0, 0), -1);
        due(14, "between(1, 0, 0, 9)", x.between(1, 0, 0, 9), -1);
        due(14, "between(MAX, MAX, MIN, MIN)", x.between(MAX, MAX, MIN, MIN), -1);
        due(14, "between(0, 9, 1, -9)", x.between(0, 9, 1, -9), 0);
    }

    private static void sign() {
        KeyHall x = new KeyHall(0);
        due(15, "sign(96)", x.sign(96), -1);
        due(15, "sign(123)", x.sign(123), -1);
        due(15, "sign(65)", x.sign(65), -1);
        due(15, "sign(0)", x.sign(0), -1);
        due(15, "sign(MIN)", x.sign(MIN), -1);
        due(15, "sign(97 + 256)", x.sign(97 + 256), -1);
        for (int i = 1; i <= 12; i++) {
            due(15, "sign number " + i, x.sign(i % 2 == 0 ? 97 : 122), i);
        }
        due(15, "sign(97) with 12", x.sign(97), -3);
        due(15, "sign(122) with 12", x.sign(122), -3);
        due(15, "sign(96) with 12", x.sign(96), -1);
        due(15, "letter(0) of a full tape", x.letter(0), 122);
        due(15, "letter(11) of a full tape", x.letter(11), 97);
        due(15, "erase() of a full tape", x.erase(), 12);
        due(15, "sign(112) after erase", x.sign(112), 1);
    }

    private static void erase() {
        KeyHall x = new KeyHall(0);
        due(16, "erase() of an empty tape", x.erase(), 0);
        type(x, "pq");
        due(16, "erase()", x.erase(), 2);
        due(16, "erase() again", x.erase(), 0);
        due(16, "letter(0) after erase", x.letter(0), -1);
        due(16, "sign after erase", x.sign(98), 1);
        due(16, "letter(0) after erase and sign", x.letter(0), 98);
    }

    private static void type(KeyHall x, String word) {
        for (int i = 0; i < word.length(); i++) {
            x.sign(word.charAt(i));
        }
    }

    private static int lineOf(KeyHall x, String word, int n) {
        type(x, word);
        return x.line(n);
    }

    private static long readOf(KeyHall x, String word, int k) {
        type(x, word);
        return x.read(k);
    }

    private static int forgetOf(KeyHall x, String word) {
        type(x, word);
        return x.forget();
    }

    private static void line() {
        KeyHall x = new KeyHall(0);
        due(17, "line(1) without a word", x.line(1), -1);
        due(17, "size(3) after a refused line", x.size(3), 0);
        due(17, "line of b", lineOf(x, "b", 5), 1);
        due(17, "line empties the tape", x.erase(), 0);
        due(17, "line of b again", lineOf(x, "b", 5), 2);
        due(17, "line of a", lineOf(x, "a", 7), 1);
        due(17, "line of ba", lineOf(x, "ba", 8), 1);
        due(17, "line of b, a third", lineOf(x, "b", MIN), 3);
        due(17, "size(3)", x.size(3), 3);
        due(17, "line of twelve signs", lineOf(x, "zzzzzzzzzzzz", 9), 1);
        due(17, "line of twelve others", lineOf(x, "zzzzzzzzzzzy", 10), 1);
        due(17, "line of twelve signs again", lineOf(x, "zzzzzzzzzzzz", 9), 2);
        due(17, "line(1) with an empty tape", x.line(1), -1);
    }

    private static void read() {
        KeyHall x = new KeyHall(0);
        due(18, "read(0) without a word", x.read(0), NOTHING);
        lineOf(x, "cab", 9);
        lineOf(x, "ca", 4);
        lineOf(x, "cab", -3);
        lineOf(x, "cabs", 6);
        lineOf(x, "cab", 9);
        due(18, "read(0) of cab", readOf(x, "cab", 0), 9);
        due(18, "read empties the tape", x.erase(), 0);
        due(18, "read(1) of cab", readOf(x, "cab", 1), -3);
        due(18, "read(2) of cab", readOf(x, "cab", 2), 9);
        due(18, "read(3) of cab", readOf(x, "cab", 3), NOTHING);
        due(18, "a read of nothing empties the tape", x.erase(), 0);
        due(18, "read(-1) of cab", readOf(x, "cab", -1), NOTHING);
        due(18, "read(MAX) of cab", readOf(x, "cab", MAX), NOTHING);
        due(18, "read(MIN) of cab", readOf(x, "cab", MIN), NOTHING);
        due(18, "read(0) of ca", readOf(x, "ca", 0), 4);
        due(18, "read(1) of ca", readOf(x, "ca", 1), NOTHING);
        due(18, "read(0) of c", readOf(x, "c", 0), NOTHING);
        due(18, "a word without a line empties the tape", x.erase(), 0);
        due(18, "read(0) of cabs", readOf(x, "cabs", 0), 6);
        due(18, "read(0) of an empty tape", x.read(0), NOTHING);
        due(18, "size(3) after read", x.size(3), 3);
    }

    private static void next() {
        KeyHall x = new KeyHall(0);
        due(19, "next() without lines", x.next(), 0);
        type(x, "m");
        due(19, "next() without lines, with a tape", x.next(), 0);
        due(19, "the tape is empty then", x.erase(), 0);
        lineOf(x, "m", 1);
        lineOf(x, "m", 2);
        lineOf(x, "mp", 3);
        type(x, "l");
        due(19, "next() from l", x.next(), 1);
        due(19, "letter(0)", x.letter(0), 'm');
        due(19, "next() from m", x.next(), 2);
        due(19, "letter(1)", x.letter(1), 'p');
        due(19, "next() from mp", x.next(), 0);
        due(19, "letter(0) of the empty tape", x.letter(0), -1);
        due(19, "next() from the empty tape", x.next(), 1);
        due(19, "sign behind the word that came", x.sign('o'), 2);
        due(19, "next() from mo", x.next(), 2);
        due(19, "read(0) of the word that came", x.read(0), 3);
    }

    private static void nextTakesTextOrder() {
        KeyHall x = new KeyHall(0);
        String[] words = {"zz", "a", "b", "aaaaaaaaaaab", "aaaaaaaaaaaa", "ab", "abc", "ba", "p", "zp"};
        for (int i = 0; i < words.length; i++) {
            lineOf(x, words[i], i);
        }
        String[] rising = {"a", "aaaaaaaaaaaa", "aaaaaaaaaaab", "ab", "abc", "b", "ba", "p", "zp", "zz"};
        for (String word : rising) {
            due(19, "next() to " + word, x.next(), word.length());
            for (int k = 0; k < word.length(); k++) {
                due(20, "letter(" + k + ") of " + word, x.letter(k), word.charAt(k));
            }
        }
        due(19, "next() from the last", x.next(), 0);
    }

    private static void letter() {
        KeyHall x = new KeyHall(0);
        due(20, "letter(0) of an empty tape", x.letter(0), -1);
        type(x, "azp");
        due(20, "letter(0)", x.letter(0), 'a');
        due(20, "letter(1)", x.letter(1), 'z');
        due(20, "letter(2)", x.letter(2), 'p');
        due(20, "letter(3)", x.letter(3), -1);
        due(20, "letter(12)", x.letter(12), -1);
        due(20, "letter(-1)", x.letter(-1), -1);
        due(20, "letter(MAX)", x.letter(MAX), -1);
        due(20, "letter(MIN)", x.letter(MIN), -1);
        due(20, "letter takes no sign away", x.erase(), 3);
    }

    private static void forget() {
        KeyHall x = new KeyHall(0);
        due(21, "forget() of an empty tape", x.forget(), -1);
        lineOf(x, "ab", 1);
        lineOf(x, "a", 2);
        lineOf(x, "ab", 3);
        lineOf(x, "abc", 4);
        due(21, "forget() of b", forgetOf(x, "b"), -1);
        due(21, "a refused forget empties the tape", x.erase(), 0);
        due(21, "forget() of an empty tape, with lines", x.forget(), -1);
        due(21, "forget() of ab", forgetOf(x, "ab"), 2);
        due(21, "forget empties the tape", x.erase(), 0);
        due(21, "forget() of ab again", forgetOf(x, "ab"), -1);
        due(21, "size(3) after forget", x.size(3), 2);
        due(21, "read(0) of ab", readOf(x, "ab", 0), NOTHING);
        due(21, "read(0) of a", readOf(x, "a", 0), 2);
        due(21, "read(0) of abc", readOf(x, "abc", 0), 4);
        type(x, "a");
        due(21, "next() from a skips ab", x.next(), 3);
        x.erase();
        due(21, "line of ab after forget", lineOf(x, "ab", 5), 1);
    }

    private static void mark() {
        KeyHall x = new KeyHall(0);
        due(22, "mark(1, 2)", x.mark(1, 2), 1);
        due(22, "mark(2, 1)", x.mark(2, 1), 2);
        due(22, "mark(1, 2) again", x.mark(1, 2), 1);
        due(22, "mark(1, 2) a third time", x.mark(1, 2), 2);
        due(22, "mark(MIN, MAX)", x.mark(MIN, MAX), 3);
        due(22, "mark(MIN, MAX) again", x.mark(MIN, MAX), 2);
        due(22, "size(4)", x.size(4), 2);
    }

    private static void around() {
        KeyHall x = new KeyHall(0);
        due(23, "around(0, 0) of nothing", x.around(0, 0), 0);
        for (int px = -1; px <= 1; px++) {
            for (int py = -1; py <= 1; py++) {
                x.mark(px, py);
            }
        }
        due(23, "around(0, 0) without itself", x.around(0, 0), 8);
        due(23, "around(1, 1)", x.around(1, 1), 3);
        due(23, "around(0, 1)", x.around(0, 1), 5);
        due(23, "around(2, 0)", x.around(2, 0), 3);
        due(23, "around(2, 2)", x.around(2, 2), 1);
        due(23, "around(-2, 2)", x.around(-2, 2), 1);
        due(23, "around(3, 0)", x.around(3, 0), 0);
        due(23, "size(4) after around", x.size(4), 9);

        KeyHall edge = new KeyHall(0);
        edge.mark(MIN, MIN);
        edge.mark(MAX, MAX);
        edge.mark(MIN, MAX);
        due(23, "around(MAX, MAX)", edge.around(MAX, MAX), 2);
        due(23, "around(MAX, MIN)", edge.around(MAX, MIN), 3);
        due(23, "around(MIN, MIN)", edge.around(MIN, MIN), 2);
    }

    private static void step() {
        KeyHall x = new KeyHall(0);
        x.mark(0, -1);
        x.mark(0, 0);
        x.mark(0, 1);
        due(24, "step() of a bar", x.step(), 3);
        due(24, "mark(-1, 0), which the step marked", x.mark(-1, 0), 2);
        due(24, "mark(1, 0), which the step marked", x.mark(1, 0), 1);
        due(24, "mark(0, 0), which stayed", x.mark(0, 0), 0);
        due(24, "step() of nothing", x.step(), 0);
        x.mark(5, 5);
        due(24, "step() of one point", x.step(), 0);
        due(24, "size(4) after it", x.size(4), 0);

        KeyHall block = new KeyHall(0);
        block.mark(0, 0);
        block.mark(0, 1);
        block.mark(1, 0);
        due(24, "step() of a corner", block.step(), 4);
        due(24, "step() of a block", block.step(), 4);
        due(24, "around(0, 0) of a block", block.around(0, 0), 3);

        KeyHall full = new KeyHall(0);
        for (int px = 0; px < 3; px++) {
            for (int py = 0; py < 3; py++) {
                full.mark(px, py);
            }
        }
        due(24, "step() of nine points", full.step(), 8);
        due(24, "step() of the ring", full.step(), 12);
    }

    private static void stepLimit() {
        KeyHall x = new KeyHall(0);
        for (int i = 0; i < 60; i++) {
            x.mark(i, 0);
        }
        x.mark(1000, 0);
        due(24, "step() with 61", x.step(), -1);
        due(24, "size(4) after a refused step", x.size(4), 61);
        due(24, "nothing is done", x.around(1, 0), 2);
        x.mark(1000, 0);
        due(24, "step() with 60", x.step(), 174);
        due(24, "step() with 174", x.step(), -1);
        for (int i = 0; i < 380; i++) {
            x.mark(i, 5000);
        }
        due(24, "size(4) with more than one for each call", x.size(4), 554);
        due(23, "around the greatest of them", x.around(380, 5000), 1);
        due(22, "mark of one of the greatest again", x.mark(350, 5000), 553);
        due(22, "mark(1, -1), which the step marked", x.mark(1, -1), 552);
    }

    private static void stepWraps() {
        KeyHall x = new KeyHall(0);
        x.mark(MAX, MAX);
        x.mark(MIN, MAX);
        x.mark(MIN + 1, MAX);
        due(24, "step() over the edge", x.step(), 3);
        due(24, "mark(MIN, MIN), which the step marked", x.mark(MIN, MIN), 2);
        due(24, "mark(MIN, MAX - 1), which the step marked", x.mark(MIN, MAX - 1), 1);
        due(24, "mark(MIN, MAX), which stayed", x.mark(MIN, MAX), 0);
    }

    private static void putAndGet() {
        KeyHall x = new KeyHall(0);
        due(26, "get(1, 2) of nothing", x.get(1, 2), NOTHING);
        due(25, "put(1, 2, 3)", x.put(1, 2, 3), NOTHING);
        due(25, "put(1, 2, MIN)", x.put(1, 2, MIN), 3);
        due(25, "put(1, 2, 0)", x.put(1, 2, 0), MIN);
        due(25, "put(2, 1, 8)", x.put(2, 1, 8), NOTHING);
        due(25, "put(MIN, MAX, 9)", x.put(MIN, MAX, 9), NOTHING);
        due(26, "get(1, 2)", x.get(1, 2), 0);
        due(26, "get(2, 1)", x.get(2, 1), 8);
        due(26, "get(MIN, MAX)", x.get(MIN, MAX), 9);
        due(26, "get(MAX, MIN)", x.get(MAX, MIN), NOTHING);
        due(26, "get(1, 1)", x.get(1, 1), NOTHING);
        due(25, "size(5)", x.size(5), 3);
        due(25, "size(6)", x.size(6), 3);
    }

    private static void end() {
        KeyHall x = new KeyHall(0);
        due(27, "end(1) of nothing", x.end(1), NOTHING);
        x.put(1, -4, 0);
        due(27, "end(1) of one column", x.end(1), -4);
        x.put(1, 7, 0);
        x.put(1, 2, 0);
        x.put(2, 9, 0);
        x.put(0, MAX, 0);
        x.put(MAX, MIN, 0);
        x.put(MIN, MAX, 0);
        due(27, "end(1)", x.end(1), 7);
        due(27, "end(2)", x.end(2), 9);
        due(27, "end(0)", x.end(0), MAX);
        due(27, "end(MAX)", x.end(MAX), MIN);
        due(27, "end(MIN)", x.end(MIN), MAX);
        due(27, "end(3) without the row", x.end(3), NOTHING);
        due(27, "end(-1) without the row", x.end(-1), NOTHING);
        x.put(MAX, MAX, 0);
        due(27, "end(MAX) with the greatest column", x.end(MAX), MAX);
        x.cut(1, 7);
        due(27, "end(1) after cut", x.end(1), 2);
    }

    private static void cut() {
        KeyHall x = new KeyHall(0);
        due(28, "cut(1, 1) of nothing", x.cut(1, 1), 0);
        x.put(1, 1, 5);
        x.put(1, 2, 6);
        x.put(-1, 1, 7);
        due(28, "cut(1, 3) without the column", x.cut(1, 3), 2);
        due(28, "cut(5, 1) without the row", x.cut(5, 1), 2);
        due(28, "size(6) after cuts of nothing", x.size(6), 3);
        due(28, "cut(1, 1)", x.cut(1, 1), 2);
        due(28, "get(1, 1) after cut", x.get(1, 1), NOTHING);
        due(28, "get(1, 2) after cut", x.get(1, 2), 6);
        due(28, "get(-1, 1) after cut", x.get(-1, 1), 7);
        due(28, "cut(1, 2), the last of its row", x.cut(1, 2), 1);
        due(28, "end(1) after the row went", x.end(1), NOTHING);
        due(28, "put(1, 2, 9) after cut", x.put(1, 2, 9), NOTHING);
        due(28, "size(5) when the row is back", x.size(5), 2);
    }

    private static void size() {
        KeyHall x = new KeyHall(0);
        for (int i = 0; i < 9; i++) {
            add(x, i);
        }
        int[] due = {2, 3, 4, 5, 6, 7, 8};
        for (int what = 0; what < due.length; what++) {
            due(29, "size(" + what + ")", x.size(what), due[what]);
        }
        due(29, "size(7)", x.size(7), -1);
        due(29, "size(-1)", x.size(-1), -1);
        due(29, "size(MAX)", x.size(MAX), -1);
        due(29, "size(MIN)", x.size(MIN), -1);
    }

    private static void sizeOfAlikeWords() {
        KeyHall x = new KeyHall(0);
        lineOf(x, "kkkkkkkkkkkb", 1);
        lineOf(x, "kkkkkkkkkkkc", 2);
        lineOf(x, "kkkkkkkkkkk", 3);
        due(29, "size(3) of words that differ at their end", x.size(3), 3);
    }

    private static void add(KeyHall x, int i) {
        if (i < 2) {
            x.add(i, i, 1);
        }
        if (i < 3) {
            x.come(i, i);
        }
        if (i < 4) {
            x.rank(i, i, 1);
        }
        if (i < 5) {
            x.sign('a' + i);
            x.line(1);
            x.sign('a' + i);
            x.line(2);
        }
        if (i < 6) {
            x.mark(i, i);
        }
        if (i < 8) {
            x.put(Math.min(i, 6), i, 1);
        }
    }

    private static void fullRows() {
        KeyHall counted = new KeyHall(1);
        KeyHall come = new KeyHall(2);
        KeyHall ranked = new KeyHall(3);
        KeyHall marked = new KeyHall(0);
        KeyHall put = new KeyHall(1);
        for (int i = 0; i < 510; i++) {
            int scattered = i * 211 % 510;
            due(2, "add of pair " + i, counted.add(scattered, -scattered, i), i);
            due(7, "come of pair " + i, come.come(scattered, -scattered), true);
            due(11, "rank of pair " + i, ranked.rank(scattered, -scattered, i), NOTHING);
            due(22, "mark of point " + i, marked.mark(scattered, -scattered), i + 1);
            due(25, "put of column " + i, put.put(scattered, -scattered, i), NOTHING);
        }
        due(3, "count(211, -211) among 510", counted.count(211, -211), 1);
        due(2, "size(0) of 510", counted.size(0), 510);
        due(9, "comer(509, true) of 510", come.comer(509, true), -(509 * 211 % 510));
        due(7, "size(1) of 510", come.size(1), 510);
        due(12, "near from above 510", ranked.near(MAX, 0, true, false), told(509, -509));
        due(14, "between of 510", ranked.between(0, 0, 509, -509), 509);
        due(23, "around(1, 0) among 510", marked.around(1, 0), 2);
        due(24, "step() with 510", marked.step(), -1);
        due(27, "end(509) of 510", put.end(509), -509);
        due(29, "size(5) of 510", put.size(5), 510);

        KeyHall lined = new KeyHall(0);
        for (int i = 0; i < 255; i++) {
            lined.sign('q');
            due(17, "line number " + i, lined.line(i), i + 1);
        }
        lined.sign('q');
        due(18, "read(254) of 255", lined.read(254), 254);
    }

    private static void partsAreApart() {
        KeyHall x = new KeyHall(0);
        x.add(1, 1, 2);
        x.come(1, 1);
        x.rank(1, 1, 3);
        x.mark(1, 1);
        x.put(1, 1, 4);
        x.sign('a');
        due(3, "count(1, 1)", x.count(1, 1), 2);
        due(26, "get(1, 1)", x.get(1, 1), 4);
        due(13, "poll(false)", x.poll(false), 3);
        due(6, "sweep()", x.sweep(), 1);
        due(7, "come(1, 1)", x.come(1, 1), false);
        due(22, "mark(1, 1)", x.mark(1, 1), 0);
        due(28, "cut(1, 1)", x.cut(1, 1), 0);
        due(16, "erase()", x.erase(), 1);

        KeyHall other = new KeyHall(0);
        due(1, "an object has a state of its own", other.size(1), 0);
    }
}
