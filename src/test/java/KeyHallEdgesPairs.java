/** The edges that promises 2 to 14 name: counts, COMING and RISING. */
public final class KeyHallEdgesPairs extends EdgeCases {
    public static void main(String[] args) {
        run(KeyHallEdgesPairs.class, 2, 14);
    }

    // Promise 2: add.

    static void promise2CountIsZeroAtFirst() {
        KeyHall x = hall();
        due("add(1, 2, 5)", x.add(1, 2, 5), 5);
        due("add(1, 3, -5)", x.add(1, 3, -5), -5);
    }

    static void promise2AddOfZeroMakesACount() {
        KeyHall x = hall();
        due("add(1, 2, 0)", x.add(1, 2, 0), 0);
        due("size(0)", x.size(0), 1);
        due("count(1, 2)", x.count(1, 2), 0);
    }

    static void promise2CountBackAtZeroStays() {
        KeyHall x = hall();
        x.add(1, 2, 4);
        due("add(1, 2, -4)", x.add(1, 2, -4), 0);
        due("size(0)", x.size(0), 1);
        due("count(1, 2)", x.count(1, 2), 0);
    }

    static void promise2CountIsByMore() {
        KeyHall x = hall();
        x.add(1, 2, 4);
        x.add(1, 1, 100);
        x.add(1, 3, 1000);
        due("add(1, 2, 3)", x.add(1, 2, 3), 7);
        due("add(1, 2, -9)", x.add(1, 2, -9), -2);
        due("size(0)", x.size(0), 3);
    }

    static void promise2ByTheGreatestAndTheLeast() {
        KeyHall x = hall();
        due("add of MAX", x.add(0, 0, MAX), 2147483647L);
        due("add of MAX again", x.add(0, 0, MAX), 4294967294L);
        due("add of MIN", x.add(1, 0, MIN), -2147483648L);
        due("add of MIN again", x.add(1, 0, MIN), -4294967296L);
    }

    // Promise 3: count.

    static void promise3NothingWithoutACount() {
        KeyHall x = hall();
        x.add(1, 2, 3);
        due("count(1, 1)", x.count(1, 1), NOTHING);
        due("count(1, 3)", x.count(1, 3), NOTHING);
        due("count(0, 2)", x.count(0, 2), NOTHING);
        due("count(2, 2)", x.count(2, 2), NOTHING);
    }

    static void promise3CountOfZeroIsNotNothing() {
        KeyHall x = hall();
        x.add(1, 2, 0);
        due("count(1, 2)", x.count(1, 2), 0);
    }

    static void promise3MakesNoCount() {
        KeyHall x = hall();
        x.count(1, 2);
        due("size(0) after count", x.size(0), 0);
        due("count(1, 2) again", x.count(1, 2), NOTHING);
    }

    static void promise3NothingOfPairsThatOnlyCame() {
        KeyHall x = hall();
        x.come(1, 2);
        x.rank(1, 2, 5);
        x.put(1, 2, 5);
        x.mark(1, 2);
        due("count(1, 2)", x.count(1, 2), NOTHING);
    }

    // Promise 4: drop.

    static void promise4TellsTheCount() {
        KeyHall x = hall();
        x.add(1, 2, 3);
        x.add(1, 2, 4);
        due("drop(1, 2)", x.drop(1, 2), 7);
    }

    static void promise4CountOfZeroIsNotNothing() {
        KeyHall x = hall();
        x.add(1, 2, 0);
        due("drop(1, 2)", x.drop(1, 2), 0);
    }

    static void promise4NothingWithoutACount() {
        KeyHall x = hall();
        due("drop(1, 2) of none", x.drop(1, 2), NOTHING);
        x.add(1, 2, 3);
        due("drop(2, 1)", x.drop(2, 1), NOTHING);
        due("size(0) after it", x.size(0), 1);
        due("count(1, 2) after it", x.count(1, 2), 3);
    }

    static void promise4NoCountAnyMore() {
        KeyHall x = hall();
        x.add(1, 2, 3);
        x.add(0, 2, 4);
        x.add(2, 2, 5);
        x.drop(1, 2);
        due("count(1, 2)", x.count(1, 2), NOTHING);
        due("drop(1, 2) again", x.drop(1, 2), NOTHING);
        due("size(0)", x.size(0), 2);
        due("count(0, 2)", x.count(0, 2), 4);
        due("count(2, 2)", x.count(2, 2), 5);
    }

    static void promise4AddAfterDropStartsAtZero() {
        KeyHall x = hall();
        x.add(1, 2, 3);
        x.drop(1, 2);
        due("add(1, 2, 5)", x.add(1, 2, 5), 5);
    }

    // Promise 5: total.

    static void promise5ZeroWithoutCounts() {
        KeyHall x = hall();
        due("total() of none", x.total(), 0);
        x.add(1, 2, 3);
        x.drop(1, 2);
        due("total() of none any more", x.total(), 0);
    }

    static void promise5SumOverAll() {
        KeyHall x = hall();
        x.add(1, 2, 3);
        x.add(-4, 5, 6);
        x.add(7, -8, -9);
        due("total()", x.total(), 33 * 3 + (-124 + 5) * 6 + (217 - 8) * -9);
    }

    static void promise5CountOfZeroAddsNothing() {
        KeyHall x = hall();
        x.add(1, 2, 3);
        x.add(1000, 1000, 0);
        due("total()", x.total(), 99);
    }

    static void promise5IsALong() {
        KeyHall x = hall();
        x.add(MAX, MAX, 1);
        due("total() of 31 MAX + MAX", x.total(), 68719476704L);
        KeyHall low = hall();
        low.add(MIN, MIN, 1);
        due("total() of 31 MIN + MIN", low.total(), -68719476736L);
    }

    static void promise5WrapsInOneCount() {
        KeyHall x = hall();
        x.add(MIN, MIN, MIN);
        // 2^36 times 2^31 is 2^67.
        due("total()", x.total(), 0);
        x.add(MIN, MIN, MAX);
        due("total() of a count of -1", x.total(), 68719476736L);
        KeyHall y = hall();
        y.add(1 << 26, 0, MAX);
        y.add(1 << 26, 0, MAX);
        y.add(1 << 26, 0, MAX);
        // 31 times 2^26 times 3 times (2^31 - 1) is below 2^64, above 2^63.
        due("total() above the longs", y.total(), 31L * 67108864L * 6442450941L);
        due("total() is below 0 then", y.total() < 0, true);
    }

    static void promise5WrapsInTheSum() {
        KeyHall x = hall();
        for (int b = 0; b < 8; b++) {
            x.add(1 << 25, b, MAX);
            x.add(1 << 25, b, 1);
        }
        // Each is below 2^63: 31 times 2^25 times 2^31, and b times 2^31.
        long sum = 8 * (31L << 56) + (28L << 31);
        due("total()", x.total(), sum);
        due("total() is below 0 then", x.total() < 0, true);
    }

    // Promise 6: sweep.

    static void promise6ZeroWithoutCounts() {
        due("sweep() of none", hall().sweep(), 0);
    }

    static void promise6EvenSumsGo() {
        KeyHall x = hall();
        x.add(1, 1, 5);
        x.add(2, 4, 5);
        x.add(0, 0, 0);
        x.add(3, -3, 5);
        due("sweep()", x.sweep(), 4);
        due("size(0)", x.size(0), 0);
        due("count(1, 1)", x.count(1, 1), NOTHING);
        due("count(0, 0)", x.count(0, 0), NOTHING);
    }

    static void promise6OddSumsStay() {
        KeyHall x = hall();
        x.add(1, 2, 5);
        x.add(2, 1, 6);
        x.add(0, 1, 0);
        due("sweep()", x.sweep(), 0);
        due("size(0)", x.size(0), 3);
        due("count(1, 2)", x.count(1, 2), 5);
        due("count(2, 1)", x.count(2, 1), 6);
        due("count(0, 1)", x.count(0, 1), 0);
    }

    static void promise6SumsBelowZero() {
        KeyHall x = hall();
        x.add(-1, -2, 5);
        x.add(-1, 0, 6);
        x.add(-1, -1, 7);
        x.add(-4, 2, 8);
        due("sweep()", x.sweep(), 2);
        due("count(-1, -2)", x.count(-1, -2), 5);
        due("count(-1, 0)", x.count(-1, 0), 6);
        due("count(-1, -1)", x.count(-1, -1), NOTHING);
        due("count(-4, 2)", x.count(-4, 2), NOTHING);
    }

    static void promise6SumsThatWrap() {
        KeyHall x = hall();
        x.add(MAX, MAX, 1);
        x.add(MAX, 1, 2);
        x.add(MIN, MIN, 3);
        x.add(MIN, -1, 4);
        x.add(MAX, 2, 5);
        x.add(MAX, MIN, 6);
        due("sweep()", x.sweep(), 3);
        due("size(0)", x.size(0), 3);
        due("count(MAX, MAX)", x.count(MAX, MAX), NOTHING);
        due("count(MAX, 1)", x.count(MAX, 1), NOTHING);
        due("count(MIN, MIN)", x.count(MIN, MIN), NOTHING);
        due("count(MIN, -1)", x.count(MIN, -1), 4);
        due("count(MAX, 2)", x.count(MAX, 2), 5);
        due("count(MAX, MIN)", x.count(MAX, MIN), 6);
    }

    static void promise6TellsHowManyWentNotHowManyStay() {
        KeyHall x = hall();
        x.add(1, 1, 1);
        x.add(1, 2, 1);
        x.add(1, 4, 1);
        x.add(1, 6, 1);
        due("sweep()", x.sweep(), 1);
        due("sweep() again", x.sweep(), 0);
        due("size(0)", x.size(0), 3);
    }

    static void promise6OnlyCountsGo() {
        KeyHall x = hall();
        x.come(2, 2);
        x.rank(2, 2, 1);
        x.put(2, 2, 1);
        x.mark(2, 2);
        due("sweep()", x.sweep(), 0);
        for (int what : new int[] {1, 2, 4, 5, 6}) {
            due("size(" + what + ")", x.size(what), 1);
        }
    }

    // Promise 7: come.

    static void promise7ComesBehindAll() {
        KeyHall x = hall();
        due("come(9, 9)", x.come(9, 9), true);
        due("come(1, 1)", x.come(1, 1), true);
        due("come(5, 5)", x.come(5, 5), true);
        due("comer(0, false)", x.comer(0, false), 9);
        due("comer(1, false)", x.comer(1, false), 1);
        due("comer(2, false)", x.comer(2, false), 5);
    }

    static void promise7DoesNotComeIfItIsThere() {
        KeyHall x = hall();
        x.come(1, 1);
        x.come(2, 2);
        due("come(1, 1) again", x.come(1, 1), false);
        due("size(1)", x.size(1), 2);
        due("comer(0, false): it stays where it was", x.comer(0, false), 1);
        due("comer(1, false)", x.comer(1, false), 2);
    }

    static void promise7ComesBehindAllAfterItLeft() {
        KeyHall x = hall();
        x.come(1, 1);
        x.come(2, 2);
        x.leave(1, 1);
        due("come(1, 1)", x.come(1, 1), true);
        due("comer(0, false)", x.comer(0, false), 2);
        due("comer(1, false)", x.comer(1, false), 1);
    }

    static void promise7OneAlikePartIsAnotherPair() {
        KeyHall x = hall();
        x.come(1, 2);
        due("come(1, 3)", x.come(1, 3), true);
        due("come(2, 2)", x.come(2, 2), true);
        due("come(2, 1)", x.come(2, 1), true);
    }

    // Promise 8: leave.

    static void promise8ItWasThere() {
        KeyHall x = hall();
        x.come(1, 1);
        x.come(2, 2);
        x.come(3, 3);
        due("leave(2, 2)", x.leave(2, 2), true);
        due("size(1)", x.size(1), 2);
        due("comer(0, false)", x.comer(0, false), 1);
        due("comer(1, false)", x.comer(1, false), 3);
    }

    static void promise8ItWasNotThere() {
        KeyHall x = hall();
        due("leave(1, 1) of none", x.leave(1, 1), false);
        x.come(1, 2);
        due("leave(2, 1)", x.leave(2, 1), false);
        due("size(1)", x.size(1), 1);
    }

    static void promise8ItIsGone() {
        KeyHall x = hall();
        x.come(1, 1);
        x.leave(1, 1);
        due("leave(1, 1) again", x.leave(1, 1), false);
        due("size(1)", x.size(1), 0);
        due("comer(0, false)", x.comer(0, false), NOTHING);
    }

    static void promise8OnlyComingLosesIt() {
        KeyHall x = hall();
        x.come(1, 1);
        x.add(1, 1, 5);
        x.leave(1, 1);
        due("count(1, 1)", x.count(1, 1), 5);
    }

    // Promise 9: comer.

    static void promise9IsFromZero() {
        KeyHall x = hall();
        x.come(5, 6);
        due("comer(0, false)", x.comer(0, false), 5);
        due("comer(1, false)", x.comer(1, false), NOTHING);
    }

    static void promise9SecondTellsB() {
        KeyHall x = hall();
        x.come(5, 6);
        due("comer(0, true)", x.comer(0, true), 6);
        due("comer(1, true)", x.comer(1, true), NOTHING);
    }

    static void promise9NothingOfNone() {
        due("comer(0, false)", hall().comer(0, false), NOTHING);
        due("comer(0, true)", hall().comer(0, true), NOTHING);
    }

    static void promise9NothingBelowZero() {
        KeyHall x = hall();
        x.come(5, 6);
        x.come(7, 8);
        for (int k : new int[] {-1, -2, MIN, MIN + 1}) {
            due("comer(" + k + ", false)", x.comer(k, false), NOTHING);
            due("comer(" + k + ", true)", x.comer(k, true), NOTHING);
        }
    }

    static void promise9NothingBehindTheLast() {
        KeyHall x = hall();
        x.come(5, 6);
        x.come(7, 8);
        for (int k : new int[] {2, 3, 511, 512, 513, 1 << 30, MAX}) {
            due("comer(" + k + ", false)", x.comer(k, false), NOTHING);
            due("comer(" + k + ", true)", x.comer(k, true), NOTHING);
        }
    }

    static void promise9NothingWhereOneLeft() {
        KeyHall x = hall();
        x.come(5, 6);
        x.come(7, 8);
        x.leave(5, 6);
        due("comer(1, false)", x.comer(1, false), NOTHING);
        due("comer(0, false)", x.comer(0, false), 7);
    }

    static void promise9TellsTheLeastAndTheGreatest() {
        KeyHall x = hall();
        x.come(MIN, MAX);
        x.come(MAX, MIN);
        due("comer(0, false)", x.comer(0, false), MIN);
        due("comer(0, true)", x.comer(0, true), MAX);
        due("comer(1, false)", x.comer(1, false), MAX);
        due("comer(1, true)", x.comer(1, true), MIN);
    }

    // Promise 10: retain.

    static void promise10ZeroOfNone() {
        KeyHall x = hall();
        due("retain() of none", x.retain(), 0);
        x.add(1, 1, 1);
        due("retain() of none, with a count", x.retain(), 0);
        due("size(1)", x.size(1), 0);
    }

    static void promise10PairsWithoutACountGo() {
        KeyHall x = hall();
        x.come(1, 1);
        x.come(2, 2);
        x.come(3, 3);
        x.add(2, 2, 5);
        due("retain()", x.retain(), 1);
        due("comer(0, false)", x.comer(0, false), 2);
        due("comer(1, false)", x.comer(1, false), NOTHING);
        due("come(1, 1)", x.come(1, 1), true);
    }

    static void promise10AllGoWithoutCounts() {
        KeyHall x = hall();
        x.come(1, 1);
        x.come(2, 2);
        due("retain()", x.retain(), 0);
        due("size(1)", x.size(1), 0);
    }

    static void promise10AllStayWithCounts() {
        KeyHall x = hall();
        x.come(2, 2);
        x.come(1, 1);
        x.add(1, 1, 1);
        x.add(2, 2, 1);
        due("retain()", x.retain(), 2);
        due("comer(0, false)", x.comer(0, false), 2);
        due("comer(1, false)", x.comer(1, false), 1);
    }

    static void promise10CountOfZeroIsACount() {
        KeyHall x = hall();
        x.come(1, 1);
        x.add(1, 1, 0);
        due("retain()", x.retain(), 1);
        due("come(1, 1)", x.come(1, 1), false);
    }

    static void promise10CountThatWentIsNone() {
        KeyHall x = hall();
        x.come(1, 1);
        x.come(2, 1);
        x.come(2, 2);
        for (int a = 1; a <= 2; a++) {
            x.add(a, 1, 5);
            x.add(a, 2, 5);
        }
        x.drop(1, 1);
        due("retain() after drop", x.retain(), 2);
        x.sweep();
        due("retain() after sweep", x.retain(), 1);
        due("comer(0, true)", x.comer(0, true), 1);
    }

    static void promise10TheOrderStays() {
        KeyHall x = hall();
        for (int a = 9; a >= 0; a--) {
            x.come(a, 0);
            if (a % 3 == 0) {
                x.add(a, 0, 1);
            }
        }
        due("retain()", x.retain(), 4);
        for (int k = 0; k < 4; k++) {
            due("comer(" + k + ", false)", x.comer(k, false), 9 - 3 * k);
        }
        x.come(8, 0);
        due("comer(4, false), which came then", x.comer(4, false), 8);
    }

    static void promise10CountsStay() {
        KeyHall x = hall();
        x.add(1, 1, 5);
        x.add(2, 2, 6);
        x.come(1, 1);
        x.retain();
        due("size(0)", x.size(0), 2);
        due("count(2, 2), which did not come", x.count(2, 2), 6);
    }

    // Promise 11: rank.

    static void promise11NothingAtFirst() {
        KeyHall x = hall();
        due("rank(1, 2, 5)", x.rank(1, 2, 5), NOTHING);
        due("rank(2, 1, 5)", x.rank(2, 1, 5), NOTHING);
        due("rank(1, 1, 5)", x.rank(1, 1, 5), NOTHING);
        due("size(2)", x.size(2), 3);
    }

    static void promise11TellsWhatItHad() {
        KeyHall x = hall();
        x.rank(1, 2, 5);
        due("rank(1, 2, MIN)", x.rank(1, 2, MIN), 5);
        due("rank(1, 2, MAX)", x.rank(1, 2, MAX), MIN);
        due("rank(1, 2, 0)", x.rank(1, 2, 0), MAX);
        due("rank(1, 2, 7)", x.rank(1, 2, 7), 0);
        due("poll(false)", x.poll(false), 7);
    }

    static void promise11ThePairStandsOnce() {
        KeyHall x = hall();
        x.rank(1, 2, 5);
        x.rank(1, 2, 6);
        due("size(2)", x.size(2), 1);
        x.poll(false);
        due("poll(false) again", x.poll(false), NOTHING);
    }

    static void promise11NothingAfterPoll() {
        KeyHall x = hall();
        x.rank(1, 2, 5);
        x.poll(true);
        due("rank(1, 2, 6)", x.rank(1, 2, 6), NOTHING);
    }

    // Promise 12: near.

    private static KeyHall threeRanks() {
        KeyHall x = hall();
        x.rank(5, 5, 2);
        x.rank(7, -7, 3);
        x.rank(5, -5, 1);
        return x;
    }

    static void promise12AboveIsNotItself() {
        due("near(5, 5)", threeRanks().near(5, 5, false, false), told(7, -7));
        due("near(5, -5)", threeRanks().near(5, -5, false, false), told(5, 5));
    }

    static void promise12BelowIsNotItself() {
        due("near(5, 5)", threeRanks().near(5, 5, true, false), told(5, -5));
        due("near(7, -7)", threeRanks().near(7, -7, true, false), told(5, 5));
    }

    static void promise12SameTellsItself() {
        due("near(5, 5) up", threeRanks().near(5, 5, false, true), told(5, 5));
        due("near(5, 5) down", threeRanks().near(5, 5, true, true), told(5, 5));
    }

    static void promise12SameWithoutItself() {
        due("near(5, 0) up", threeRanks().near(5, 0, false, true), told(5, 5));
        due("near(5, 0) down", threeRanks().near(5, 0, true, true), told(5, -5));
        due("near(6, MAX) up", threeRanks().near(6, MAX, false, true), told(7, -7));
        due("near(6, MIN) down", threeRanks().near(6, MIN, true, true), told(5, 5));
    }

    static void promise12NothingAboveTheGreatest() {
        due("near(7, -7)", threeRanks().near(7, -7, false, false), NOTHING);
        due("near(7, -6), same", threeRanks().near(7, -6, false, true), NOTHING);
        due("near(MAX, MAX), same", threeRanks().near(MAX, MAX, false, true), NOTHING);
    }

    static void promise12NothingBelowTheLeast() {
        due("near(5, -5)", threeRanks().near(5, -5, true, false), NOTHING);
        due("near(5, -6), same", threeRanks().near(5, -6, true, true), NOTHING);
        due("near(MIN, MIN), same", threeRanks().near(MIN, MIN, true, true), NOTHING);
    }

    static void promise12NothingOfNone() {
        for (int i = 0; i < 4; i++) {
            due("near(0, 0) number " + i, hall().near(0, 0, i % 2 == 0, i / 2 == 0), NOTHING);
        }
    }

    static void promise12LeastAboveAndGreatestBelow() {
        KeyHall x = hall();
        for (int i = 0; i < 9; i++) {
            x.rank(i * 5 % 9, 0, i);
        }
        due("near(3, 1) up", x.near(3, 1, false, false), told(4, 0));
        due("near(3, 1) down", x.near(3, 1, true, false), told(3, 0));
    }

    static void promise12NumberOfTheGreatestPair() {
        KeyHall x = hall();
        x.rank(MAX, MAX, 1);
        due("near up", x.near(MAX, MAX, false, true), 4611686018427387903L);
        due("near down", x.near(MAX, MAX, true, true), 4611686018427387903L);
        due("near above it", x.near(MAX, MAX, false, false), NOTHING);
        due("near from below it", x.near(MAX, MAX - 1, false, false), 4611686018427387903L);
    }

    static void promise12NumberOfTheLeastPair() {
        KeyHall x = hall();
        x.rank(MIN, MIN, 1);
        due("near up", x.near(MIN, MIN, false, true), -4611686020574871552L);
        due("near down", x.near(MIN, MIN, true, true), -4611686020574871552L);
        due("near below it", x.near(MIN, MIN, true, false), NOTHING);
        due("near from above it", x.near(MIN, MIN + 1, true, false), -4611686020574871552L);
    }

    static void promise12NumberOfPartsBelowZero() {
        KeyHall x = hall();
        x.rank(1, -1, 1);
        due("near to (1, -1)", x.near(1, -1, false, true), 2147483647L);
        x.rank(-1, 1, 1);
        due("near to (-1, 1)", x.near(-1, 1, false, true), -2147483647L);
        x.rank(-1, -1, 1);
        due("near to (-1, -1)", x.near(-1, -1, false, true), -2147483649L);
    }

    static void promise12ChangesNothing() {
        KeyHall x = threeRanks();
        x.near(5, 5, false, true);
        x.near(5, 5, true, false);
        due("size(2)", x.size(2), 3);
        due("rank(5, 5, 0)", x.rank(5, 5, 0), 2);
    }

    // Promise 13: poll.

    static void promise13FirstGoes() {
        KeyHall x = threeRanks();
        due("poll(false)", x.poll(false), 1);
        due("size(2)", x.size(2), 2);
        due("the first then", x.near(MIN, MIN, false, true), told(5, 5));
        due("the last then", x.near(MAX, MAX, true, true), told(7, -7));
    }

    static void promise13LastGoes() {
        KeyHall x = threeRanks();
        due("poll(true)", x.poll(true), 3);
        due("size(2)", x.size(2), 2);
        due("the first then", x.near(MIN, MIN, false, true), told(5, -5));
        due("the last then", x.near(MAX, MAX, true, true), told(5, 5));
    }

    static void promise13NothingOfNone() {
        due("poll(false)", hall().poll(false), NOTHING);
        due("poll(true)", hall().poll(true), NOTHING);
        KeyHall x = hall();
        x.poll(false);
        x.poll(true);
        due("size(2) after it", x.size(2), 0);
        due("rank after it", x.rank(1, 1, 1), NOTHING);
    }

    static void promise13TheOnlyOneIsFirstAndLast() {
        for (boolean last : new boolean[] {false, true}) {
            KeyHall x = hall();
            x.rank(1, 1, MIN);
            due("poll(" + last + ")", x.poll(last), MIN);
            due("poll(" + last + ") again", x.poll(last), NOTHING);
            due("size(2)", x.size(2), 0);
        }
    }

    static void promise13IntOfZeroIsNotNothing() {
        KeyHall x = hall();
        x.rank(1, 1, 0);
        due("poll(false)", x.poll(false), 0);
    }

    static void promise13IsByThePairNotByTheInt() {
        KeyHall x = hall();
        x.rank(1, 0, 9);
        x.rank(2, 0, 1);
        due("poll(false)", x.poll(false), 9);
    }

    // Promise 14: between.

    static void promise14IsFromTheFirstOn() {
        due("between(5, -5, 5, 0)", threeRanks().between(5, -5, 5, 0), 1);
        due("between(5, -4, 5, 0)", threeRanks().between(5, -4, 5, 0), 0);
        due("between(5, 5, 9, 9)", threeRanks().between(5, 5, 9, 9), 2);
    }

    static void promise14IsUpToBeforeTheSecond() {
        due("between(0, 0, 5, 5)", threeRanks().between(0, 0, 5, 5), 1);
        due("between(0, 0, 5, 6)", threeRanks().between(0, 0, 5, 6), 2);
        due("between(0, 0, 7, -7)", threeRanks().between(0, 0, 7, -7), 2);
        due("between(0, 0, 7, -6)", threeRanks().between(0, 0, 7, -6), 3);
    }

    static void promise14ZeroFromAPairToItself() {
        due("between(5, 5, 5, 5)", threeRanks().between(5, 5, 5, 5), 0);
        due("between(6, 6, 6, 6)", threeRanks().between(6, 6, 6, 6), 0);
        due("between(MIN, MIN, MIN, MIN)", threeRanks().between(MIN, MIN, MIN, MIN), 0);
        due("between(MAX, MAX, MAX, MAX)", threeRanks().between(MAX, MAX, MAX, MAX), 0);
    }

    static void promise14RefusedByTheFirstPart() {
        due("between(5, 0, 4, 0)", threeRanks().between(5, 0, 4, 0), REFUSED);
        due("between(5, 0, 4, 9)", threeRanks().between(5, 0, 4, 9), REFUSED);
        due("between(MAX, 0, MIN, 0)", threeRanks().between(MAX, 0, MIN, 0), REFUSED);
        due("between(0, MIN, -1, MAX)", threeRanks().between(0, MIN, -1, MAX), REFUSED);
    }

    static void promise14RefusedByTheSecondPart() {
        due("between(5, 1, 5, 0)", threeRanks().between(5, 1, 5, 0), REFUSED);
        due("between(5, 0, 5, -1)", threeRanks().between(5, 0, 5, -1), REFUSED);
        due("between(5, MAX, 5, MIN)", threeRanks().between(5, MAX, 5, MIN), REFUSED);
    }

    static void promise14RefusedOfNone() {
        due("between(1, 1, 1, 0)", hall().between(1, 1, 1, 0), REFUSED);
    }

    static void promise14NotRefusedWhereOnlyTheSecondPartIsBefore() {
        due("between(5, 9, 7, -9)", threeRanks().between(5, 9, 7, -9), 0);
        due("between(4, MAX, 9, MIN)", threeRanks().between(4, MAX, 9, MIN), 3);
    }

    static void promise14ZeroOfNone() {
        due("between(MIN, MIN, MAX, MAX)", hall().between(MIN, MIN, MAX, MAX), 0);
    }

    static void promise14TheGreatestPairIsBeforeNone() {
        KeyHall x = hall();
        x.rank(MIN, MIN, 1);
        x.rank(MAX, MAX, 1);
        due("between(MIN, MIN, MAX, MAX)", x.between(MIN, MIN, MAX, MAX), 1);
        due("between(MIN, MIN + 1, MAX, MAX)", x.between(MIN, MIN + 1, MAX, MAX), 0);
        due("size(2)", x.size(2), 2);
    }
}
