/** The edges that 'What it is', 'The public face', 'Terms' and promise 1 name. */
public final class KeyHallEdgesTerms extends EdgeCases {
    public static void main(String[] args) {
        run(KeyHallEdgesTerms.class, 1, 1);
    }

    // What it is: at most 512 calls.

    // So many things may have come to an object before the 512th call asks for them.
    private static final int BUT_ONE = 511;

    // Scatters 0 to 510, so that things do not come in their order.
    private static int scattered(int i) {
        return i * 211 % BUT_ONE;
    }

    private static int scatteredFrom(int place) {
        for (int i = 0; i < BUT_ONE; i++) {
            if (scattered(i) == place) {
                return i;
            }
        }
        return -1;
    }

    private static KeyHall withCounts() {
        KeyHall x = hall();
        for (int i = 0; i < BUT_ONE; i++) {
            due("add number " + i, x.add(scattered(i), -i, i), i);
        }
        return x;
    }

    static void callsWithCountsTo512() {
        due("size(0) as call 512", withCounts().size(0), BUT_ONE);
        due("count of the first as call 512", withCounts().count(0, 0), 0);
        due("count of the last as call 512", withCounts().count(scattered(510), -510), 510);
        due("count of the greatest as call 512", withCounts().count(510, -scatteredFrom(510)), scatteredFrom(510));
        due("drop of the last as call 512", withCounts().drop(scattered(510), -510), 510);
        due("add to the last as call 512", withCounts().add(scattered(510), -510, 1), 511);
        due("add of the 512th pair", withCounts().add(1000, 1000, 7), 7);
        long sum = 0;
        for (int i = 0; i < BUT_ONE; i++) {
            sum += (31L * scattered(i) - i) * i;
        }
        due("total() as call 512", withCounts().total(), sum);
    }

    private static KeyHall withComers() {
        KeyHall x = hall();
        for (int i = 0; i < BUT_ONE; i++) {
            due("come number " + i, x.come(scattered(i), -i), true);
        }
        return x;
    }

    static void callsWithComingTo512() {
        due("size(1) as call 512", withComers().size(1), BUT_ONE);
        due("comer(0, true) as call 512", withComers().comer(0, true), 0);
        due("comer(510, false) as call 512", withComers().comer(510, false), scattered(510));
        due("comer(510, true) as call 512", withComers().comer(510, true), -510);
        due("leave of the last as call 512", withComers().leave(scattered(510), -510), true);
        due("come of the last as call 512", withComers().come(scattered(510), -510), false);
        due("the 512th comer", withComers().come(1000, 1000), true);
        due("retain() as call 512", withComers().retain(), 0);
    }

    private static KeyHall withRanks() {
        KeyHall x = hall();
        for (int i = 0; i < BUT_ONE; i++) {
            due("rank number " + i, x.rank(scattered(i), -i, i), NOTHING);
        }
        return x;
    }

    static void callsWithRisingTo512() {
        due("size(2) as call 512", withRanks().size(2), BUT_ONE);
        due("poll(false) as call 512", withRanks().poll(false), 0);
        due("poll(true) as call 512", withRanks().poll(true), scatteredFrom(510));
        due("between as call 512", withRanks().between(MIN, MIN, MAX, MAX), BUT_ONE);
        due("near down as call 512", withRanks().near(MAX, MAX, true, true), told(510, -scatteredFrom(510)));
        due("near up as call 512", withRanks().near(MIN, MIN, false, true), told(0, 0));
        due("rank of the last as call 512", withRanks().rank(scattered(510), -510, 1), 510);
        due("rank of the 512th pair", withRanks().rank(1000, 1000, 1), NOTHING);
    }

    static void callsWithOneLineTo512() {
        KeyHall x = hall();
        for (int i = 0; i < 256; i++) {
            due("sign before number " + i, x.sign('q'), 1);
            due("line number " + i, x.line(i), i + 1);
        }
    }

    static void callsWithManyWordsTo512() {
        KeyHall x = hall();
        for (int i = 0; i < 170; i++) {
            int at = i * 77 % 170;
            x.sign('a' + at / 26);
            x.sign('a' + at % 26);
            due("line of word " + i, x.line(i), 1);
        }
        due("size(3) as call 511", x.size(3), 170);
        due("next() as call 512", x.next(), 2);
    }

    static void callsWithPointsTo512() {
        KeyHall x = hall();
        for (int i = 0; i < 512; i++) {
            due("mark number " + i, x.mark(i * 211 % 512, -i), i + 1);
        }
    }

    static void callsWithPointsOfAStepTo512() {
        KeyHall x = hall();
        for (int i = 0; i < 60; i++) {
            x.mark(i, 0);
        }
        due("step() as call 61", x.step(), 174);
        for (int i = 1; i <= 451; i++) {
            due("mark number " + i + " behind the step", x.mark(-i * 3, -7), 174 + i);
        }
    }

    private static KeyHall withCells() {
        KeyHall x = hall();
        for (int i = 0; i < BUT_ONE; i++) {
            due("put number " + i, x.put(scattered(i), -i, i), NOTHING);
        }
        return x;
    }

    static void callsWithTableTo512() {
        due("size(5) as call 512", withCells().size(5), BUT_ONE);
        due("size(6) as call 512", withCells().size(6), BUT_ONE);
        due("get of the last as call 512", withCells().get(scattered(510), -510), 510);
        due("end of the greatest row as call 512", withCells().end(510), -scatteredFrom(510));
        due("cut of the last as call 512", withCells().cut(scattered(510), -510), 510);
        due("put of the last as call 512", withCells().put(scattered(510), -510, 0), 510);
        due("put of the 512th column", withCells().put(1000, 1000, 1), NOTHING);
    }

    static void callsThatComeAndLeaveTo512() {
        KeyHall x = hall();
        for (int i = 0; i < 256; i++) {
            due("come number " + i, x.come(i, i), true);
            due("leave number " + i, x.leave(i, i), true);
        }
    }

    static void callsOfOneObjectDoNotReachAnother() {
        KeyHall x = hall();
        KeyHall other = hall();
        x.add(1, 1, 1);
        x.come(1, 1);
        x.rank(1, 1, 1);
        lineOf(x, "a", 1);
        x.mark(1, 1);
        x.put(1, 1, 1);
        x.sign('a');
        for (int what = 0; what <= 6; what++) {
            due("size(" + what + ") of the other", other.size(what), 0);
        }
        due("erase() of the other", other.erase(), 0);
    }

    // The public face.

    static void faceRefusedIsMinusOne() {
        due("REFUSED", KeyHall.REFUSED, REFUSED);
    }

    static void faceFullIsMinusThree() {
        due("FULL", KeyHall.FULL, FULL);
    }

    // Terms.

    static void termsPairsAreOfAllInts() {
        KeyHall x = hall();
        for (int i = 0; i < 64; i++) {
            due("add of pair " + i, x.add(EDGES[i / 8], EDGES[i % 8], i), i);
            due("come of pair " + i, x.come(EDGES[i / 8], EDGES[i % 8]), true);
        }
        for (int i = 0; i < 64; i++) {
            due("count of pair " + i, x.count(EDGES[i / 8], EDGES[i % 8]), i);
            due("comer(" + i + ", false)", x.comer(i, false), EDGES[i / 8]);
            due("comer(" + i + ", true)", x.comer(i, true), EDGES[i % 8]);
        }
    }

    static void termsPairsHaveTwoPlaces() {
        KeyHall x = hall();
        x.add(1, 2, 5);
        x.come(1, 2);
        due("count(2, 1)", x.count(2, 1), NOTHING);
        due("leave(2, 1)", x.leave(2, 1), false);
    }

    static void termsPairsAreOrderedByTheFirst() {
        KeyHall x = hall();
        x.rank(0, MIN, 2);
        x.rank(-1, MAX, 1);
        x.rank(1, -1, 3);
        due("poll(false)", x.poll(false), 1);
        due("poll(false) again", x.poll(false), 2);
        due("poll(false) at last", x.poll(false), 3);
    }

    static void termsPairsAreOrderedThenByTheSecond() {
        KeyHall x = hall();
        x.rank(4, 0, 2);
        x.rank(4, 1, 3);
        x.rank(4, -1, 1);
        due("poll(false)", x.poll(false), 1);
        due("poll(false) again", x.poll(false), 2);
        due("poll(false) at last", x.poll(false), 3);
    }

    static void termsOrderOfPairsDoesNotWrap() {
        KeyHall x = hall();
        for (int i = 63; i >= 0; i--) {
            x.rank(EDGES[i / 8], EDGES[i % 8], i);
        }
        for (int i = 0; i < 64; i++) {
            due("poll(false) number " + i, x.poll(false), i);
        }
    }

    static void termsCountsAreLongs() {
        KeyHall x = hall();
        x.add(1, 1, MAX);
        due("add above the ints", x.add(1, 1, 1), 2147483648L);
        due("count above the ints", x.count(1, 1), 2147483648L);
        x.add(2, 2, MIN);
        due("add below the ints", x.add(2, 2, -1), -2147483649L);
        due("drop below the ints", x.drop(2, 2), -2147483649L);
    }

    static void termsNoneAtFirst() {
        for (int what = 0; what <= 6; what++) {
            due("size(" + what + ") of a new object", hall().size(what), 0);
        }
    }

    static void termsComingHoldsNoneTwice() {
        KeyHall x = hall();
        x.come(1, 1);
        x.come(2, 2);
        x.come(1, 1);
        due("size(1)", x.size(1), 2);
        due("comer(2, false)", x.comer(2, false), NOTHING);
    }

    static void termsWordsHaveOneSignAtLeast() {
        KeyHall x = hall();
        due("line without a sign", x.line(1), REFUSED);
        due("line with one sign", lineOf(x, "a", 1), 1);
        due("size(3)", x.size(3), 1);
    }

    static void termsWordsHaveTwelveSignsAtMost() {
        KeyHall x = hall();
        due("line with twelve signs", lineOf(x, "abcdefghijkl", 4), 1);
        due("line of the same twelve, with one more that is not taken", lineOf(x, "abcdefghijklm", 5), 2);
        due("line of others, different in the twelfth", lineOf(x, "abcdefghijkm", 6), 1);
        due("line of the eleven before", lineOf(x, "abcdefghijk", 7), 1);
        due("size(3)", x.size(3), 3);
    }

    static void termsWordsAreOfSmallLetters() {
        KeyHall x = hall();
        for (int letter = 97; letter <= 122; letter++) {
            due("sign(" + letter + ")", x.sign(letter), 1);
            due("letter(0) after sign(" + letter + ")", x.letter(0), letter);
            due("line of " + letter, x.line(letter), 1);
        }
        due("size(3)", x.size(3), 26);
        for (int letter = 97; letter <= 122; letter++) {
            x.sign(letter);
            due("read(0) of " + letter, x.read(0), letter);
        }
    }

    static void termsWordsAreOrderedAsTexts() {
        dueOrder("azzzzzzzzzzz", "b");
        dueOrder("ay", "b");
        dueOrder("ba", "bb");
        dueOrder("mzzzzzzzzzzy", "mzzzzzzzzzzz");
        dueOrder("o", "p");
        dueOrder("p", "q");
    }

    static void termsABeginningIsBeforeWhatIsLonger() {
        dueOrder("a", "aa");
        dueOrder("b", "ba");
        dueOrder("z", "zz");
        dueOrder("zzzzzzzzzzz", "zzzzzzzzzzza");
    }

    private static void dueOrder(String lower, String upper) {
        KeyHall x = hall();
        lineOf(x, upper, 2);
        lineOf(x, lower, 1);
        due("next() to " + lower, x.next(), lower.length());
        dueTape("of the lower word", x, lower);
        due("next() to " + upper, x.next(), upper.length());
        dueTape("of the upper word", x, upper);
        due("next() from " + upper, x.next(), 0);
    }

    static void termsTapeIsEmptyAtFirst() {
        due("erase() of a new object", hall().erase(), 0);
        due("letter(0) of a new object", hall().letter(0), REFUSED);
        due("sign(97) to a new object", hall().sign(97), 1);
    }

    static void termsTapeHasTwelveSignsAtMost() {
        KeyHall x = hall();
        type(x, "abcdefghijklmno");
        dueTape("of a tape that got fifteen", x, "abcdefghijkl");
        due("erase()", x.erase(), 12);
    }

    static void termsLineEmptiesTheTape() {
        KeyHall x = hall();
        lineOf(x, "ab", 1);
        due("letter(0) after line", x.letter(0), REFUSED);
        due("erase() after line", x.erase(), 0);
    }

    static void termsReadEmptiesTheTape() {
        KeyHall x = hall();
        lineOf(x, "ab", 1);
        due("read(0)", readOf(x, "ab", 0), 1);
        due("letter(0) after read", x.letter(0), REFUSED);
        due("erase() after read", x.erase(), 0);
    }

    static void termsReadOfNothingEmptiesTheTape() {
        KeyHall x = hall();
        lineOf(x, "ab", 1);
        due("read(1) of one", readOf(x, "ab", 1), NOTHING);
        due("erase() after it", x.erase(), 0);
        due("read(-1)", readOf(x, "ab", -1), NOTHING);
        due("erase() after it", x.erase(), 0);
        due("read(0) of a word without a line", readOf(x, "abc", 0), NOTHING);
        due("erase() after it", x.erase(), 0);
    }

    static void termsForgetEmptiesTheTape() {
        KeyHall x = hall();
        lineOf(x, "ab", 1);
        due("forget()", forgetOf(x, "ab"), 1);
        due("letter(0) after forget", x.letter(0), REFUSED);
        due("erase() after forget", x.erase(), 0);
    }

    static void termsRefusedForgetEmptiesTheTape() {
        KeyHall x = hall();
        due("forget() without a line", forgetOf(x, "ab"), REFUSED);
        due("erase() after it", x.erase(), 0);
    }

    static void termsOthersDoNotEmptyTheTape() {
        KeyHall x = hall();
        type(x, "ab");
        x.sign(96);
        x.letter(0);
        x.letter(2);
        for (int what = -1; what <= 7; what++) {
            x.size(what);
        }
        x.add(1, 1, 1);
        x.come(1, 1);
        x.rank(1, 1, 1);
        x.mark(1, 1);
        x.step();
        x.put(1, 1, 1);
        x.sweep();
        x.retain();
        x.poll(false);
        x.cut(1, 1);
        dueTape("after others", x, "ab");
    }

    static void termsLinesKeepTheOrderOfComing() {
        KeyHall x = hall();
        int[] numbers = {5, -3, 5, MAX, MIN, 0, 5};
        for (int n : numbers) {
            lineOf(x, "k", n);
            lineOf(x, "j", -1);
            lineOf(x, "ka", -2);
        }
        for (int k = 0; k < numbers.length; k++) {
            due("read(" + k + ")", readOf(x, "k", k), numbers[k]);
        }
    }

    static void termsNothingIsTwoToThe62() {
        KeyHall x = hall();
        due("count", x.count(0, 0), NOTHING);
        due("drop", x.drop(0, 0), NOTHING);
        due("comer", x.comer(0, false), NOTHING);
        due("near", x.near(0, 0, false, true), NOTHING);
        due("poll", x.poll(false), NOTHING);
        due("rank", x.rank(0, 0, 0), NOTHING);
        due("read", x.read(0), NOTHING);
        due("get", x.get(0, 0), NOTHING);
        due("end", x.end(0), NOTHING);
        due("put", x.put(0, 0, 0), NOTHING);
    }

    // Promise 1: A new object.

    static void promise1SortsTellTheSame() {
        for (int sort = 0; sort <= 3; sort++) {
            dueOfSort(sort);
        }
    }

    static void promise1OtherSortsTellTheSame() {
        for (int sort : new int[] {-1, 4, 5, 100, MIN, MIN + 3, MAX}) {
            dueOfSort(sort);
        }
    }

    // Pairs that usual hashes do not tell apart, in a sequence that is no order of theirs.
    private static void dueOfSort(int sort) {
        int[][] pairs = {{1, 0}, {0, 31}, {31, 0}, {0, 961}, {-1, 62}, {5, 5}, {6, 6}, {-7, -7}, {MIN, MIN}, {0, 0}};
        KeyHall x = new KeyHall(sort);
        String of = " of sort " + sort;
        for (int i = 0; i < pairs.length; i++) {
            int a = pairs[i][0];
            int b = pairs[i][1];
            due("add" + of, x.add(a, b, i), i);
            due("come" + of, x.come(a, b), true);
            due("rank" + of, x.rank(a, b, i), NOTHING);
            due("mark" + of, x.mark(a, b), i + 1);
            due("put" + of, x.put(a, b, i), NOTHING);
        }
        for (int i = 0; i < pairs.length; i++) {
            due("count" + of, x.count(pairs[i][0], pairs[i][1]), i);
            due("comer" + of, x.comer(i, true), pairs[i][1]);
            due("get" + of, x.get(pairs[i][0], pairs[i][1]), i);
        }
        due("around" + of, x.around(0, 0), 1);
        due("erase" + of, x.erase(), 0);
        due("line" + of, lineOf(x, "ab", sort), 1);
        due("next" + of, x.next(), 2);
        due("read" + of, x.read(0), sort);
        due("sweep" + of, x.sweep(), 5);
        due("retain" + of, x.retain(), 5);
        due("comer after retain" + of, x.comer(1, true), 31);
        for (int i : new int[] {8, 7, 4, 9, 1, 3, 0, 5, 6, 2}) {
            due("poll" + of, x.poll(false), i);
        }
    }
}
