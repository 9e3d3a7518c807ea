/** The edges that promises 22 to 24 name: the marked POINTS. */
public final class KeyHallEdgesPoints extends EdgeCases {
    public static void main(String[] args) {
        run(KeyHallEdgesPoints.class, 22, 24);
    }

    // Promise 22: mark.

    static void promise22MarksAndUnmarks() {
        KeyHall x = hall();
        due("mark(3, 4)", x.mark(3, 4), 1);
        due("mark(3, 4) again", x.mark(3, 4), 0);
        due("around(3, 3)", x.around(3, 3), 0);
        due("mark(3, 4) a third time", x.mark(3, 4), 1);
        due("around(3, 3) then", x.around(3, 3), 1);
    }

    static void promise22OneAlikePartIsAnotherPoint() {
        KeyHall x = hall();
        due("mark(3, 4)", x.mark(3, 4), 1);
        due("mark(4, 3)", x.mark(4, 3), 2);
        due("mark(3, 3)", x.mark(3, 3), 3);
        due("mark(4, 4)", x.mark(4, 4), 4);
    }

    static void promise22PointsAtTheEdges() {
        KeyHall x = hall();
        for (int i = 0; i < 64; i++) {
            due("mark of point " + i, x.mark(EDGES[i / 8], EDGES[i % 8]), i + 1);
        }
        for (int i = 0; i < 64; i++) {
            due("mark of point " + i + " again", x.mark(EDGES[i / 8], EDGES[i % 8]), 63 - i);
        }
    }

    static void promise22MoreThanSixtyMayBeMarked() {
        KeyHall x = hall();
        for (int i = 1; i <= 62; i++) {
            due("mark number " + i, x.mark(i, i), i);
        }
    }

    // Promise 23: around.

    static void promise23EachOfTheEight() {
        int[] places = {-1, -1, -1, 0, -1, 1, 0, -1, 0, 1, 1, -1, 1, 0, 1, 1};
        KeyHall all = hall();
        for (int i = 0; i < 16; i += 2) {
            KeyHall x = hall();
            x.mark(5 + places[i], 5 + places[i + 1]);
            due("around(5, 5) of place " + i / 2, x.around(5, 5), 1);
            all.mark(5 + places[i], 5 + places[i + 1]);
            due("around(5, 5) of places up to " + i / 2, all.around(5, 5), i / 2 + 1);
        }
    }

    static void promise23NotItself() {
        KeyHall x = hall();
        x.mark(5, 5);
        due("around(5, 5)", x.around(5, 5), 0);
    }

    static void promise23NotWhatIsFurtherOff() {
        KeyHall x = hall();
        for (int d = -2; d <= 2; d++) {
            x.mark(5 + d, 3);
            x.mark(5 + d, 7);
        }
        for (int d = -1; d <= 1; d++) {
            x.mark(3, 5 + d);
            x.mark(7, 5 + d);
        }
        due("size(4)", x.size(4), 16);
        due("around(5, 5)", x.around(5, 5), 0);
    }

    static void promise23NoneOfNone() {
        due("around(0, 0)", hall().around(0, 0), 0);
        due("around(MAX, MIN)", hall().around(MAX, MIN), 0);
    }

    static void promise23WrapsInTheFirst() {
        KeyHall x = hall();
        x.mark(MIN, 5);
        due("around(MAX, 5)", x.around(MAX, 5), 1);
        due("around(MAX, 6)", x.around(MAX, 6), 1);
        due("around(MAX - 1, 5)", x.around(MAX - 1, 5), 0);
        x.mark(MAX, 5);
        due("around(MIN, 5)", x.around(MIN, 5), 1);
        due("around(MIN + 1, 5)", x.around(MIN + 1, 5), 1);
    }

    static void promise23WrapsInTheSecond() {
        KeyHall x = hall();
        x.mark(5, MIN);
        due("around(5, MAX)", x.around(5, MAX), 1);
        due("around(4, MAX)", x.around(4, MAX), 1);
        due("around(5, MAX - 1)", x.around(5, MAX - 1), 0);
        x.mark(5, MAX);
        due("around(5, MIN)", x.around(5, MIN), 1);
        due("around(5, MIN + 1)", x.around(5, MIN + 1), 1);
    }

    static void promise23WrapsInTheCorner() {
        KeyHall x = hall();
        x.mark(MIN, MIN);
        due("around(MAX, MAX)", x.around(MAX, MAX), 1);
        due("around(MAX, MIN)", x.around(MAX, MIN), 1);
        due("around(MIN, MAX)", x.around(MIN, MAX), 1);
        x.mark(MAX, MAX);
        due("around(MIN, MIN)", x.around(MIN, MIN), 1);
        due("around(MAX, MIN) of two", x.around(MAX, MIN), 2);
    }

    static void promise23TheWrapOfOnePartLeavesTheOther() {
        KeyHall x = hall();
        x.mark(7, MIN);
        due("around(5, MAX)", x.around(5, MAX), 0);
        x.mark(4, MIN);
        due("around(5, MAX) with (4, MIN)", x.around(5, MAX), 1);
        KeyHall y = hall();
        y.mark(3, MAX);
        due("around(5, MIN)", y.around(5, MIN), 0);
        y.mark(6, MAX);
        due("around(5, MIN) with (6, MAX)", y.around(5, MIN), 1);
    }

    // Promise 24: step.

    private static final int[] RING = {-1, -1, -1, 0, -1, 1, 0, 1, 1, 1, 1, 0, 1, -1, 0, -1};

    // Mark tells one more for a point that was not marked, one less for a point that was.
    private static boolean isMarkedThen(int around, boolean marked, int turned) {
        KeyHall x = hall();
        if (marked) {
            x.mark(0, 0);
        }
        for (int i = 0; i < around; i++) {
            int place = (i + turned) % 8 * 2;
            x.mark(RING[place], RING[place + 1]);
        }
        int then = x.step();
        return x.mark(0, 0) < then;
    }

    private static void dueThen(int around, boolean marked, boolean want) {
        for (int turned = 0; turned < 8; turned++) {
            due("after step, with " + around + " around, " + (marked ? "marked" : "not marked") + ", it",
                isMarkedThen(around, marked, turned), want);
        }
    }

    static void promise24ThreeAroundAreMarkedThen() {
        dueThen(3, false, true);
        dueThen(3, true, true);
    }

    static void promise24MarkedWithTwoStays() {
        dueThen(2, true, true);
    }

    static void promise24NotMarkedWithTwoIsNot() {
        dueThen(2, false, false);
    }

    static void promise24OthersWithFewerAreNot() {
        dueThen(0, true, false);
        dueThen(1, true, false);
        dueThen(0, false, false);
        dueThen(1, false, false);
    }

    static void promise24OthersWithMoreAreNot() {
        for (int around = 4; around <= 8; around++) {
            dueThen(around, true, false);
            dueThen(around, false, false);
        }
    }

    static void promise24TellsHowMany() {
        KeyHall x = hall();
        x.mark(0, 0);
        x.mark(0, 1);
        x.mark(1, 0);
        due("step() of a corner", x.step(), 4);
        due("size(4)", x.size(4), 4);
        due("step() of a block", x.step(), 4);
    }

    static void promise24ZeroOfNone() {
        KeyHall x = hall();
        due("step()", x.step(), 0);
        due("size(4)", x.size(4), 0);
    }

    static void promise24AllAtOnce() {
        KeyHall x = hall();
        int[] glider = {0, 1, 1, 2, 2, 0, 2, 1, 2, 2};
        for (int i = 0; i < 10; i += 2) {
            x.mark(glider[i], glider[i + 1]);
        }
        for (int i = 1; i <= 4; i++) {
            due("step() number " + i, x.step(), 5);
        }
        for (int i = 0; i < 10; i += 2) {
            due("mark of what the glider is then", x.mark(glider[i] + 1, glider[i + 1] + 1), 4 - i / 2);
        }
    }

    private static KeyHall bar(int points) {
        KeyHall x = hall();
        for (int i = 0; i < points; i++) {
            x.mark(i, 0);
        }
        return x;
    }

    static void promise24NotRefusedWithSixty() {
        KeyHall x = bar(60);
        due("step() with 60", x.step(), 174);
        due("size(4)", x.size(4), 174);
        KeyHall apart = hall();
        for (int i = 0; i < 60; i++) {
            apart.mark(3 * i, 3 * i);
        }
        due("step() with 60 that are alone", apart.step(), 0);
    }

    static void promise24RefusedWithSixtyOne() {
        due("step() with 61", bar(61).step(), REFUSED);
        due("step() with 200", bar(200).step(), REFUSED);
        KeyHall x = bar(60);
        x.step();
        due("step() with the 174 of a step", x.step(), REFUSED);
    }

    static void promise24RefusedDoesNothing() {
        KeyHall x = bar(61);
        x.step();
        due("size(4)", x.size(4), 61);
        due("around(0, 0)", x.around(0, 0), 1);
        for (int i = 0; i < 61; i++) {
            due("mark(" + i + ", 0), which was marked", x.mark(i, 0), 60 - i);
        }
    }

    static void promise24NotRefusedWhenOneIsTakenAway() {
        KeyHall x = bar(61);
        x.mark(60, 0);
        due("step() with 60", x.step(), 174);
    }

    static void promise24WrapsOverTheFirst() {
        KeyHall x = hall();
        x.mark(MAX, 0);
        x.mark(MIN, 0);
        x.mark(MIN + 1, 0);
        due("step()", x.step(), 3);
        due("mark(MIN, -1)", x.mark(MIN, -1), 2);
        due("mark(MIN, 0)", x.mark(MIN, 0), 1);
        due("mark(MIN, 1)", x.mark(MIN, 1), 0);
    }

    static void promise24WrapsOverTheSecond() {
        KeyHall x = hall();
        x.mark(0, MAX);
        x.mark(0, MIN);
        x.mark(0, MAX - 1);
        due("step()", x.step(), 3);
        due("mark(-1, MAX)", x.mark(-1, MAX), 2);
        due("mark(0, MAX)", x.mark(0, MAX), 1);
        due("mark(1, MAX)", x.mark(1, MAX), 0);
    }

    static void promise24WrapsOverTheCorner() {
        KeyHall x = hall();
        x.mark(MAX, MAX);
        x.mark(MAX, MIN);
        x.mark(MIN, MAX);
        due("step()", x.step(), 4);
        due("mark(MIN, MIN)", x.mark(MIN, MIN), 3);
    }
}
