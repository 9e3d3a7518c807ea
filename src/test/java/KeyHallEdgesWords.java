/** The edges that promises 15 to 21 name: the TAPE and the LINES. */
public final class KeyHallEdgesWords extends EdgeCases {
    public static void main(String[] args) {
        run(KeyHallEdgesWords.class, 15, 21);
    }

    // Promise 15: sign.

    static void promise15TellsHowManyItHas() {
        KeyHall x = hall();
        for (int i = 1; i <= 12; i++) {
            due("sign number " + i, x.sign('a' + i), i);
        }
        dueTape("of twelve", x, "bcdefghijklm");
    }

    static void promise15TheFirstAndTheLastLetterCome() {
        KeyHall x = hall();
        due("sign(97)", x.sign(97), 1);
        due("sign(122)", x.sign(122), 2);
        dueTape("of both", x, "az");
    }

    static void promise15RefusedJustOutsideTheLetters() {
        due("sign(96)", hall().sign(96), REFUSED);
        due("sign(123)", hall().sign(123), REFUSED);
    }

    static void promise15RefusedForAnother() {
        for (int letter : new int[] {0, 1, 26, 31, 32, 48, 64, 65, 90, 128, -1, -97, MIN, MAX}) {
            due("sign(" + letter + ")", hall().sign(letter), REFUSED);
        }
    }

    static void promise15RefusedForLettersInLowBitsAlone() {
        for (int high : new int[] {256, 65536, 1 << 30, MIN, -256}) {
            due("sign(97 + " + high + ")", hall().sign(97 + high), REFUSED);
        }
    }

    static void promise15RefusedLeavesTheTape() {
        KeyHall x = hall();
        type(x, "ab");
        x.sign(96);
        x.sign(123);
        dueTape("after refused signs", x, "ab");
        due("sign(99)", x.sign(99), 3);
    }

    static void promise15FullWithTwelve() {
        KeyHall x = hall();
        type(x, "abcdefghijkl");
        due("sign(97)", x.sign(97), FULL);
        due("sign(122)", x.sign(122), FULL);
    }

    static void promise15NotFullWithEleven() {
        KeyHall x = hall();
        type(x, "abcdefghijk");
        due("sign(97)", x.sign(97), 12);
    }

    static void promise15FullLeavesTheTape() {
        KeyHall x = hall();
        type(x, "abcdefghijkl");
        x.sign('z');
        dueTape("after a sign that was too many", x, "abcdefghijkl");
    }

    static void promise15RefusedForAnotherWithTwelve() {
        KeyHall x = hall();
        type(x, "abcdefghijkl");
        due("sign(96)", x.sign(96), REFUSED);
        due("sign(123)", x.sign(123), REFUSED);
        due("sign(97) then", x.sign(97), FULL);
    }

    static void promise15FullWithAWordThatNextBrought() {
        KeyHall x = hall();
        lineOf(x, "abcdefghijkl", 1);
        x.next();
        due("sign(97)", x.sign(97), FULL);
    }

    static void promise15NotFullAfterTheTapeWasEmptied() {
        KeyHall x = hall();
        type(x, "abcdefghijkl");
        x.erase();
        due("sign(97) after erase", x.sign(97), 1);
        x.erase();
        lineOf(x, "abcdefghijkl", 1);
        due("sign(97) after line", x.sign(97), 1);
    }

    // Promise 16: erase.

    static void promise16ZeroOfAnEmptyTape() {
        due("erase()", hall().erase(), 0);
    }

    static void promise16TwelveOfAFullTape() {
        KeyHall x = hall();
        type(x, "zzzzzzzzzzzz");
        due("erase()", x.erase(), 12);
        due("erase() again", x.erase(), 0);
    }

    static void promise16TheTapeIsEmpty() {
        KeyHall x = hall();
        type(x, "pq");
        due("erase()", x.erase(), 2);
        due("letter(0)", x.letter(0), REFUSED);
        due("line(1)", x.line(1), REFUSED);
        x.sign('r');
        dueTape("after erase and a sign", x, "r");
    }

    static void promise16LinesStay() {
        KeyHall x = hall();
        lineOf(x, "pq", 1);
        type(x, "pq");
        x.erase();
        due("size(3)", x.size(3), 1);
        due("read(0)", readOf(x, "pq", 0), 1);
    }

    // Promise 17: line.

    static void promise17RefusedWithoutAWord() {
        KeyHall x = hall();
        due("line(1)", x.line(1), REFUSED);
        due("size(3) after it", x.size(3), 0);
        due("next() after it", x.next(), 0);
    }

    static void promise17RefusedBehindACallThatEmptied() {
        KeyHall x = hall();
        lineOf(x, "a", 1);
        due("line(2) behind line", x.line(2), REFUSED);
        readOf(x, "a", 0);
        due("line(2) behind read", x.line(2), REFUSED);
        forgetOf(x, "b");
        due("line(2) behind forget", x.line(2), REFUSED);
        nextOf(x, "z");
        due("line(2) behind a next to none", x.line(2), REFUSED);
        due("read(1) of a", readOf(x, "a", 1), NOTHING);
    }

    static void promise17TellsHowManyAreThere() {
        KeyHall x = hall();
        due("line of b", lineOf(x, "b", 7), 1);
        due("line of b again", lineOf(x, "b", 7), 2);
        due("line of a", lineOf(x, "a", 7), 1);
        due("line of c", lineOf(x, "c", 7), 1);
        due("line of b at last", lineOf(x, "b", 7), 3);
    }

    static void promise17ABeginningIsAnotherWord() {
        KeyHall x = hall();
        due("line of ab", lineOf(x, "ab", 1), 1);
        due("line of a", lineOf(x, "a", 2), 1);
        due("line of abc", lineOf(x, "abc", 3), 1);
        due("line of ba", lineOf(x, "ba", 4), 1);
        due("size(3)", x.size(3), 4);
    }

    static void promise17TheWordThatNextBrought() {
        KeyHall x = hall();
        lineOf(x, "ab", 1);
        x.next();
        due("line(2)", x.line(2), 2);
        due("read(1)", readOf(x, "ab", 1), 2);
    }

    static void promise17TakesAllInts() {
        KeyHall x = hall();
        for (int i = 0; i < EDGES.length; i++) {
            lineOf(x, "a", EDGES[i]);
            due("read(" + i + ")", readOf(x, "a", i), EDGES[i]);
        }
    }

    // Promise 18: read.

    private static KeyHall twoNumbers() {
        KeyHall x = hall();
        lineOf(x, "l", 1);
        lineOf(x, "m", 8);
        lineOf(x, "m", 9);
        lineOf(x, "ma", 2);
        return x;
    }

    static void promise18IsFromZero() {
        due("read(0)", readOf(twoNumbers(), "m", 0), 8);
        due("read(1)", readOf(twoNumbers(), "m", 1), 9);
    }

    static void promise18NothingBelowZero() {
        for (int k : new int[] {-1, -2, MIN, MIN + 1}) {
            due("read(" + k + ")", readOf(twoNumbers(), "m", k), NOTHING);
        }
    }

    static void promise18NothingBehindTheLast() {
        for (int k : new int[] {2, 3, 4, 511, 512, MAX - 1, MAX}) {
            due("read(" + k + ")", readOf(twoNumbers(), "m", k), NOTHING);
        }
    }

    static void promise18NothingWithoutALine() {
        for (String word : new String[] {"k", "n", "mb", "maa", "a", "z"}) {
            due("read(0) of " + word, readOf(twoNumbers(), word, 0), NOTHING);
        }
        due("read(0) without lines", readOf(hall(), "m", 0), NOTHING);
    }

    static void promise18NothingWithoutAWord() {
        due("read(0)", twoNumbers().read(0), NOTHING);
        due("read(0) without lines", hall().read(0), NOTHING);
    }

    static void promise18NumberOfZeroIsNotNothing() {
        KeyHall x = hall();
        lineOf(x, "a", 0);
        due("read(0)", readOf(x, "a", 0), 0);
    }

    static void promise18NothingAfterForget() {
        KeyHall x = twoNumbers();
        forgetOf(x, "m");
        due("read(0)", readOf(x, "m", 0), NOTHING);
        due("read(0) of l", readOf(x, "l", 0), 1);
        due("read(0) of ma", readOf(x, "ma", 0), 2);
    }

    static void promise18LinesStay() {
        KeyHall x = twoNumbers();
        readOf(x, "m", 0);
        readOf(x, "x", 0);
        due("size(3)", x.size(3), 3);
        due("read(0) again", readOf(x, "m", 0), 8);
    }

    // Promise 19: next.

    static void promise19IsAboveTheTape() {
        KeyHall x = twoNumbers();
        due("next() from m", nextOf(x, "m"), 2);
        dueTape("after next from m", x, "ma");
    }

    static void promise19IsTheLeastAbove() {
        KeyHall x = twoNumbers();
        due("next() from a", nextOf(x, "a"), 1);
        dueTape("after next from a", x, "l");
    }

    static void promise19TheTapeNeedsNoLine() {
        KeyHall x = twoNumbers();
        due("next() from la", nextOf(x, "la"), 1);
        dueTape("after next from la", x, "m");
        x.erase();
        due("next() from lzzzzzzzzzzz", nextOf(x, "lzzzzzzzzzzz"), 1);
        dueTape("after next from lzzzzzzzzzzz", x, "m");
    }

    static void promise19AnEmptyTapeIsBelowAll() {
        KeyHall x = hall();
        lineOf(x, "b", 1);
        lineOf(x, "a", 1);
        due("next()", x.next(), 1);
        dueTape("after next", x, "a");
    }

    static void promise19TheTapeIsNotEmptiedBefore() {
        KeyHall x = twoNumbers();
        due("next() to l", x.next(), 1);
        due("next() to m", x.next(), 1);
        due("next() to ma", x.next(), 2);
        dueTape("after three", x, "ma");
    }

    static void promise19ZeroAndEmptyIfThereIsNone() {
        KeyHall x = twoNumbers();
        due("next() from ma", nextOf(x, "ma"), 0);
        dueTape("after next from ma", x, "");
        due("next() from z", nextOf(x, "z"), 0);
        dueTape("after next from z", x, "");
        due("erase()", x.erase(), 0);
        due("size(3)", x.size(3), 3);
    }

    static void promise19ZeroAndEmptyWithoutLines() {
        KeyHall x = hall();
        due("next() of an empty tape", x.next(), 0);
        due("next() from a", nextOf(x, "a"), 0);
        due("erase()", x.erase(), 0);
    }

    static void promise19ZeroFromTheGreatestWord() {
        KeyHall x = hall();
        lineOf(x, "zzzzzzzzzzzz", 1);
        due("next() from the greatest", nextOf(x, "zzzzzzzzzzzz"), 0);
        due("next() from below it", nextOf(x, "zzzzzzzzzzzy"), 12);
        dueTape("of the greatest", x, "zzzzzzzzzzzz");
    }

    static void promise19BeginsAgainBehindTheLast() {
        KeyHall x = twoNumbers();
        nextOf(x, "z");
        due("next()", x.next(), 1);
        dueTape("of the least", x, "l");
    }

    static void promise19PassesForgottenWords() {
        KeyHall x = twoNumbers();
        forgetOf(x, "m");
        due("next() from l", nextOf(x, "l"), 2);
        dueTape("after next from l", x, "ma");
    }

    static void promise19TellsOneToTwelveSigns() {
        KeyHall x = hall();
        String word = "abcdefghijkl";
        for (int signs = 12; signs >= 1; signs--) {
            lineOf(x, word.substring(0, signs), signs);
        }
        for (int signs = 1; signs <= 12; signs++) {
            due("next() number " + signs, x.next(), signs);
        }
        due("read(0) of the last", x.read(0), 12);
    }

    // Promise 20: letter.

    static void promise20IsFromZero() {
        KeyHall x = hall();
        type(x, "pa");
        due("letter(0)", x.letter(0), 'p');
        due("letter(1)", x.letter(1), 'a');
    }

    static void promise20RefusedBehindTheLast() {
        KeyHall x = hall();
        type(x, "pa");
        for (int k : new int[] {2, 3, 11, 12, 13, 64, MAX}) {
            due("letter(" + k + ")", x.letter(k), REFUSED);
        }
    }

    static void promise20RefusedBelowZero() {
        KeyHall x = hall();
        type(x, "abcdefghijkl");
        for (int k : new int[] {-1, -2, -12, -64, MIN, MIN + 1}) {
            due("letter(" + k + ")", x.letter(k), REFUSED);
        }
    }

    static void promise20RefusedOfAnEmptyTape() {
        for (int k : new int[] {-1, 0, 1, 11, 12, MIN, MAX}) {
            due("letter(" + k + ")", hall().letter(k), REFUSED);
        }
    }

    static void promise20TheTwelfthAndNoThirteenth() {
        KeyHall x = hall();
        type(x, "abcdefghijkz");
        due("letter(11)", x.letter(11), 'z');
        due("letter(12)", x.letter(12), REFUSED);
        due("letter(13)", x.letter(13), REFUSED);
    }

    // Promise 21: forget.

    static void promise21TellsHowManyThereWere() {
        due("forget() of m", forgetOf(twoNumbers(), "m"), 2);
        due("forget() of l", forgetOf(twoNumbers(), "l"), 1);
    }

    static void promise21NoLineAnyMore() {
        KeyHall x = twoNumbers();
        forgetOf(x, "m");
        due("forget() again", forgetOf(x, "m"), REFUSED);
        due("size(3)", x.size(3), 2);
        due("line of m", lineOf(x, "m", 5), 1);
        due("read(0) of m", readOf(x, "m", 0), 5);
    }

    static void promise21RefusedWithoutALine() {
        for (String word : new String[] {"k", "n", "mb", "maa", "a", "z"}) {
            KeyHall x = twoNumbers();
            due("forget() of " + word, forgetOf(x, word), REFUSED);
            due("size(3) after it", x.size(3), 3);
        }
        due("forget() without lines", forgetOf(hall(), "m"), REFUSED);
    }

    static void promise21RefusedWithoutAWord() {
        KeyHall x = twoNumbers();
        due("forget()", x.forget(), REFUSED);
        due("size(3) after it", x.size(3), 3);
        due("forget() without lines", hall().forget(), REFUSED);
    }

    static void promise21OthersStay() {
        KeyHall x = twoNumbers();
        forgetOf(x, "m");
        due("read(0) of l", readOf(x, "l", 0), 1);
        due("read(0) of ma", readOf(x, "ma", 0), 2);
    }
}
