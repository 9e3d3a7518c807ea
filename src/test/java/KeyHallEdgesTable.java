/** The edges that promises 25 to 29 name: the TABLE, and the sizes of all parts. */
public final class KeyHallEdgesTable extends EdgeCases {
    public static void main(String[] args) {
        run(KeyHallEdgesTable.class, 25, 29);
    }

    // Promise 25: put.

    static void promise25NothingAtFirst() {
        KeyHall x = hall();
        due("put(1, 2, 3)", x.put(1, 2, 3), NOTHING);
        due("put(1, 3, 3)", x.put(1, 3, 3), NOTHING);
        due("put(2, 2, 3)", x.put(2, 2, 3), NOTHING);
        due("put(2, 1, 3)", x.put(2, 1, 3), NOTHING);
    }

    static void promise25TellsWhatItWas() {
        KeyHall x = hall();
        x.put(1, 2, 3);
        due("put(1, 2, MIN)", x.put(1, 2, MIN), 3);
        due("put(1, 2, MAX)", x.put(1, 2, MAX), MIN);
        due("put(1, 2, 0)", x.put(1, 2, 0), MAX);
        due("put(1, 2, 4)", x.put(1, 2, 4), 0);
        due("get(1, 2)", x.get(1, 2), 4);
        due("size(6)", x.size(6), 1);
    }

    static void promise25NothingAfterCut() {
        KeyHall x = hall();
        x.put(1, 2, 3);
        x.cut(1, 2);
        due("put(1, 2, 4)", x.put(1, 2, 4), NOTHING);
    }

    static void promise25RowsAndColumnsOfAllInts() {
        KeyHall x = hall();
        for (int i = 0; i < 64; i++) {
            due("put number " + i, x.put(EDGES[i / 8], EDGES[i % 8], i), NOTHING);
        }
        for (int i = 0; i < 64; i++) {
            due("get number " + i, x.get(EDGES[i / 8], EDGES[i % 8]), i);
        }
        due("size(5)", x.size(5), 8);
        due("size(6)", x.size(6), 64);
    }

    // Promise 26: get.

    static void promise26NothingWithoutTheRow() {
        KeyHall x = hall();
        due("get(1, 2) of none", x.get(1, 2), NOTHING);
        x.put(1, 2, 3);
        due("get(0, 2)", x.get(0, 2), NOTHING);
        due("get(2, 2)", x.get(2, 2), NOTHING);
    }

    static void promise26NothingWithoutTheColumn() {
        KeyHall x = hall();
        x.put(1, 2, 3);
        due("get(1, 1)", x.get(1, 1), NOTHING);
        due("get(1, 3)", x.get(1, 3), NOTHING);
        due("get(1, MIN)", x.get(1, MIN), NOTHING);
        due("get(1, MAX)", x.get(1, MAX), NOTHING);
    }

    static void promise26ZeroIsNotNothing() {
        KeyHall x = hall();
        x.put(1, 2, 0);
        due("get(1, 2)", x.get(1, 2), 0);
    }

    static void promise26TellsTheLeastAndTheGreatest() {
        KeyHall x = hall();
        x.put(1, 2, MIN);
        x.put(1, 3, MAX);
        due("get(1, 2)", x.get(1, 2), MIN);
        due("get(1, 3)", x.get(1, 3), MAX);
    }

    static void promise26MakesNoRow() {
        KeyHall x = hall();
        x.get(1, 2);
        due("size(5)", x.size(5), 0);
        due("size(6)", x.size(6), 0);
    }

    // Promise 27: end.

    static void promise27TheGreatestColumn() {
        KeyHall x = hall();
        x.put(1, 5, 100);
        x.put(1, 9, 50);
        x.put(1, 7, 200);
        x.put(0, 99, 1);
        x.put(2, 99, 1);
        due("end(1)", x.end(1), 9);
    }

    static void promise27NothingWithoutTheRow() {
        KeyHall x = hall();
        for (int r : EDGES) {
            due("end(" + r + ") of none", x.end(r), NOTHING);
        }
        x.put(0, 5, 1);
        x.put(2, 5, 1);
        due("end(1) between rows", x.end(1), NOTHING);
        due("end(-1) below rows", x.end(-1), NOTHING);
        due("end(3) above rows", x.end(3), NOTHING);
        due("end(MIN)", x.end(MIN), NOTHING);
        due("end(MAX)", x.end(MAX), NOTHING);
    }

    static void promise27NothingOfARowThatWent() {
        KeyHall x = hall();
        x.put(0, 5, 1);
        x.put(1, 5, 1);
        x.cut(1, 5);
        due("end(1)", x.end(1), NOTHING);
    }

    static void promise27ColumnsBelowZero() {
        KeyHall x = hall();
        x.put(1, -5, 1);
        x.put(1, -9, 1);
        due("end(1)", x.end(1), -5);
        x.put(1, 0, 1);
        due("end(1) with 0", x.end(1), 0);
    }

    static void promise27TheLeastAndTheGreatestColumn() {
        KeyHall x = hall();
        x.put(1, MIN, 1);
        due("end(1) with MIN", x.end(1), MIN);
        x.put(1, MAX, 1);
        due("end(1) with MAX", x.end(1), MAX);
        x.put(2, MIN, 1);
        due("end(1) with another row behind it", x.end(1), MAX);
        due("end(2)", x.end(2), MIN);
    }

    static void promise27TheLeastAndTheGreatestRow() {
        KeyHall x = hall();
        x.put(MAX, MAX, 1);
        x.put(MAX, 3, 1);
        x.put(MIN, MIN, 1);
        due("end(MAX)", x.end(MAX), MAX);
        due("end(MIN)", x.end(MIN), MIN);
        x.cut(MAX, MAX);
        due("end(MAX) after cut", x.end(MAX), 3);
    }

    static void promise27AfterTheGreatestWent() {
        KeyHall x = hall();
        x.put(1, 5, 1);
        x.put(1, 9, 1);
        x.cut(1, 9);
        due("end(1)", x.end(1), 5);
    }

    // Promise 28: cut.

    static void promise28ZeroOfNone() {
        due("cut(1, 2)", hall().cut(1, 2), 0);
    }

    static void promise28ColumnThatIsNotThere() {
        KeyHall x = hall();
        x.put(1, 2, 3);
        x.put(2, 2, 3);
        due("cut(1, 1)", x.cut(1, 1), 2);
        due("cut(1, 3)", x.cut(1, 3), 2);
        due("cut(0, 2)", x.cut(0, 2), 2);
        due("cut(3, 2)", x.cut(3, 2), 2);
        due("size(5)", x.size(5), 2);
        due("size(6)", x.size(6), 2);
    }

    static void promise28RowWithColumnsStays() {
        KeyHall x = hall();
        x.put(1, 2, 3);
        x.put(1, 4, 5);
        x.put(1, 6, 7);
        due("cut(1, 2)", x.cut(1, 2), 1);
        due("get(1, 2)", x.get(1, 2), NOTHING);
        due("get(1, 4)", x.get(1, 4), 5);
        due("get(1, 6)", x.get(1, 6), 7);
        due("size(5)", x.size(5), 1);
        due("size(6)", x.size(6), 2);
    }

    static void promise28RowWithoutColumnsGoes() {
        KeyHall x = hall();
        x.put(1, 2, 3);
        x.put(2, 2, 4);
        due("cut(1, 2)", x.cut(1, 2), 1);
        due("size(5)", x.size(5), 1);
        due("cut(2, 2)", x.cut(2, 2), 0);
        due("size(5) of none", x.size(5), 0);
        due("size(6) of none", x.size(6), 0);
    }

    static void promise28TheSameColumnOfOtherRowsStays() {
        KeyHall x = hall();
        x.put(1, 2, 3);
        x.put(2, 2, 4);
        x.put(0, 2, 5);
        x.cut(1, 2);
        due("get(0, 2)", x.get(0, 2), 5);
        due("get(2, 2)", x.get(2, 2), 4);
    }

    static void promise28TheLeastAndTheGreatest() {
        KeyHall x = hall();
        x.put(MIN, MIN, 1);
        x.put(MAX, MAX, 2);
        due("cut(MIN, MAX)", x.cut(MIN, MAX), 2);
        due("cut(MAX, MIN)", x.cut(MAX, MIN), 2);
        due("cut(MIN, MIN)", x.cut(MIN, MIN), 1);
        due("cut(MAX, MAX)", x.cut(MAX, MAX), 0);
    }

    // Promise 29: size.

    static void promise29RefusedForOthers() {
        for (int what : new int[] {-1, 7, 8, -7, 100, MIN, MIN + 6, MAX}) {
            due("size(" + what + ")", hall().size(what), REFUSED);
        }
    }

    static void promise29Counts() {
        KeyHall x = hall();
        x.add(1, 1, 0);
        x.add(1, 1, 5);
        x.add(1, 2, 5);
        dueSizes(x, 2, 0, 0, 0, 0, 0, 0);
    }

    static void promise29Coming() {
        KeyHall x = hall();
        x.come(1, 1);
        x.come(1, 1);
        x.come(1, 2);
        dueSizes(x, 0, 2, 0, 0, 0, 0, 0);
    }

    static void promise29Rising() {
        KeyHall x = hall();
        x.rank(1, 1, 1);
        x.rank(1, 1, 2);
        x.rank(1, 2, 1);
        dueSizes(x, 0, 0, 2, 0, 0, 0, 0);
    }

    static void promise29WordsWithALine() {
        KeyHall x = hall();
        lineOf(x, "a", 1);
        lineOf(x, "a", 2);
        lineOf(x, "aa", 1);
        type(x, "b");
        dueSizes(x, 0, 0, 0, 2, 0, 0, 0);
        x.erase();
        forgetOf(x, "a");
        dueSizes(x, 0, 0, 0, 1, 0, 0, 0);
    }

    static void promise29MarkedPoints() {
        KeyHall x = hall();
        x.mark(1, 1);
        x.mark(1, 2);
        x.mark(1, 3);
        x.mark(1, 2);
        dueSizes(x, 0, 0, 0, 0, 2, 0, 0);
    }

    static void promise29RowsAndColumnsOfAllRows() {
        KeyHall x = hall();
        x.put(1, 1, 1);
        x.put(1, 2, 1);
        x.put(2, 1, 1);
        x.put(1, 1, 2);
        dueSizes(x, 0, 0, 0, 0, 0, 2, 3);
        x.cut(2, 1);
        dueSizes(x, 0, 0, 0, 0, 0, 1, 2);
    }

    private static void dueSizes(KeyHall x, int... sizes) {
        for (int what = 0; what < sizes.length; what++) {
            due("size(" + what + ")", x.size(what), sizes[what]);
        }
    }
}
