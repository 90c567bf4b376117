/** The edges of promises 14 to 17, a method for each sentence of the document that names one. */
public final class WordEdgesTest {
    private static final int UNKNOWN = PackedBends.UNKNOWN;
    private static final int OUTSIDE = PackedBends.OUTSIDE;
    private static final long LOST = PackedBends.LOST;
    private static final int MIN = Integer.MIN_VALUE;
    private static final int MAX = Integer.MAX_VALUE;
    private static final int[] NO_PLACES = {0, 5, -1, MIN, MAX};
    private static final Due DUE = new Due();

    public static void main(String[] args) {
        digitsAreFirstToLastPlace();
        noneTwiceRunning();
        noPlaces();
        ninePlacesAtMost();
        belowNothing();
        everyNumberUpToFiveDigits();
        placesOfACircle();
        circlesOfRoot();
        bendsAboveAllTurns();
        bothWordsOfProduct();
        productOfTheFarthest();
        touchingOnlyByMinusOne();
        touchingFromNoneToThree();
        unknownAheadOfOutside();
        wordsStartFromRoot();
        DUE.end();
    }

    /** All calls that take a word agree about what is one. */
    private static void isWord(int word, boolean holds) {
        PackedBends x = new PackedBends();
        String what = "(" + word + (holds ? ") a WORD" : ") no WORD");
        DUE.isTrue("14: bendOf" + what, (x.bendOf(word, 1) != LOST) == holds);
        DUE.isTrue("15: times" + what, (x.times(word, 2, 3) != LOST) == holds);
        DUE.isTrue("16: product" + what, (x.product(word, 1, 0, 4) != LOST) == holds);
        DUE.isTrue("16: product, the other" + what, (x.product(0, 4, word, 1) != LOST) == holds);
        DUE.isTrue("17: touching" + what, (x.touching(word, 0, 1) >= 0) == holds);
        DUE.isTrue("17: touching, the other" + what, (x.touching(0, word, 4) >= 0) == holds);
        DUE.is("17: touching" + what, Math.min(x.touching(word, 0, 1), 0), holds ? 0 : OUTSIDE);
        DUE.is("17: touching, the other" + what, Math.min(x.touching(0, word, 1), 0), holds ? 0 : OUTSIDE);
    }

    /** 'A WORD is a number whose digits are PLACES': 0 and 5 to 9 are none, be they first, last or between. */
    private static void digitsAreFirstToLastPlace() {
        for (int digit = 0; digit <= 9; digit++) {
            boolean isPlace = digit >= 1 && digit <= 4;
            isWord(digit, isPlace || digit == 0);
            isWord(digit * 10 + (digit == 1 ? 2 : 1), isPlace || digit == 0);
            isWord((digit == 1 ? 20 : 10) + digit, isPlace);
            isWord((digit == 1 ? 202 : 101) + digit * 10, isPlace);
            isWord(digit * 100000000 + (digit == 1 ? 21212121 : 12121212), isPlace || digit == 0);
            isWord((digit == 1 ? 121212120 : 212121210) + (digit == 1 || digit == 2 ? 3 : digit), isPlace);
        }
        for (int unit = 10; unit <= 100000000; unit *= 10) {
            for (int place = 1; place <= 4; place++) {
                isWord(place * unit, false);
                isWord(place * unit - 1, false);
            }
        }
    }

    /** 'none twice running': but again after another. */
    private static void noneTwiceRunning() {
        for (int place = 1; place <= 4; place++) {
            int other = place % 4 + 1;
            isWord(place * 11, false);
            isWord(place * 110 + other, false);
            isWord(other * 100 + place * 11, false);
            isWord(place * 100 + other * 10 + place, true);
            isWord(place * 1111, false);
        }
        isWord(121212122, false);
        isWord(112121212, false);
        isWord(121221212, false);
        isWord(121212121, true);
    }

    /** '(0: no PLACES)' */
    private static void noPlaces() {
        PackedBends x = new PackedBends();
        x.set(15, 10, -6, 19);
        long[] root = {-6, 10, 15, 19};
        for (int place = 1; place <= 4; place++) {
            DUE.is("14: bendOf(0, " + place + ")", x.bendOf(0, place), root[place - 1]);
        }
        DUE.is("16: two of ROOT", x.product(0, 1, 0, 4), -1);
        DUE.is("16: one of ROOT", x.product(0, 4, 0, 4), 1);
        DUE.is("17: of ROOT", x.touching(0, 0, 1), 3);
    }

    /** Promise 14: 'no WORD (of 9 PLACES at most)'. */
    private static void ninePlacesAtMost() {
        isWord(121212121, true);
        isWord(434343434, true);
        isWord(123412341, true);
        isWord(1212121212, false);
        isWord(2121212121, false);
        isWord(1000000000, false);
        isWord(1000000001, false);
        isWord(1121212121, false);
        isWord(MAX, false);
        PackedBends x = new PackedBends();
        DUE.is("14: the tenth is too many", x.bendOf(1212121212, 2), LOST);
        // Between the circles of 2 and 3 each bend is twice the one before and 10, less the one before that.
        DUE.is("14: the ninth is not", x.bendOf(212121212, 2), 422);
    }

    private static void belowNothing() {
        int[] below = {-1, -2, -3, -4, -12, -121, -121212121, -1212121212, MIN, MIN + 1};
        for (int word : below) {
            isWord(word, false);
        }
    }

    private static void everyNumberUpToFiveDigits() {
        int found = 0;
        for (int hundreds = 0; hundreds < 1000; hundreds++) {
            PackedBends x = new PackedBends();
            for (int word = hundreds * 100; word < hundreds * 100 + 100; word++) {
                found += x.bendOf(word, 1) != LOST ? 1 : 0;
            }
        }
        // 4 of one place, and 3 times as many with each further place: 1 + 4 + 12 + 36 + 108 + 324.
        DUE.is("14: how many words there are", found, 485);
    }

    /** 'UNKNOWN: PLACE' and 'UNKNOWN: PLACES': each of them. */
    private static void placesOfACircle() {
        PackedBends x = new PackedBends();
        DUE.is("14: the first", x.bendOf(1, 1), 15);
        DUE.is("14: the last", x.bendOf(1, 4), 3);
        DUE.is("15: the first", x.times(1, 1, 1), 2);
        DUE.is("15: the last", x.times(1, 4, 3), 1);
        DUE.is("16: first and last", x.product(0, 1, 0, 4), -1);
        DUE.is("16: last and first", x.product(0, 4, 0, 1), -1);
        DUE.is("17: the first", x.touching(0, 1, 1), 3);
        DUE.is("17: the last", x.touching(0, 4, 4), 3);
        for (int place : NO_PLACES) {
            DUE.is("14: bendOf(1, " + place + ")", x.bendOf(1, place), LOST);
            DUE.is("15: times(1, " + place + ", 0)", x.times(1, place, 0), LOST);
            DUE.is("16: product(1, " + place + ", 1, 1)", x.product(1, place, 1, 1), LOST);
            DUE.is("16: product(1, 1, 1, " + place + ")", x.product(1, 1, 1, place), LOST);
            DUE.is("17: touching(1, 1, " + place + ")", x.touching(1, 1, place), UNKNOWN);
        }
    }

    /** Promise 15: 'the k-th circle of ROOT (0 .. 3)', 'OUTSIDE: WORD, k'. */
    private static void circlesOfRoot() {
        PackedBends x = new PackedBends();
        DUE.is("15: k 0", x.times(12, 2, 0), -2);
        DUE.is("15: k 3", x.times(12, 2, 3), 6);
        DUE.is("15: k -1", x.times(12, 2, -1), LOST);
        DUE.is("15: k 4", x.times(12, 2, 4), LOST);
        DUE.is("15: k MIN", x.times(12, 2, MIN), LOST);
        DUE.is("15: k MAX", x.times(12, 2, MAX), LOST);
        // 'ROOT's are themselves once'
        for (int place = 1; place <= 4; place++) {
            for (int k = 0; k < 4; k++) {
                DUE.is("15: times(0, " + place + ", " + k + ")", x.times(0, place, k), place == k + 1 ? 1 : 0);
            }
        }
    }

    /** bendOf is not refused by OVER, nor does it wrap around: this bend needs more than 32 bits. */
    private static void bendsAboveAllTurns() {
        PackedBends x = new PackedBends();
        x.set(0, 0, 1000000, 1000000);
        long[] four = {0, 0, 1000000, 1000000};
        int word = 0;
        for (int i = 0; i < 9; i++) {
            four = SlowBends.turned(four, i % 4);
            word = word * 10 + i % 4 + 1;
            DUE.is("14: bendOf(" + word + ")", x.bendOf(word, i % 4 + 1), four[i % 4]);
        }
        DUE.isTrue("14: above 32 bits", four[0] > 1L << 32);
    }

    /** Promise 16: 'OUTSIDE: WORDS': the one, the other, both. */
    private static void bothWordsOfProduct() {
        PackedBends x = new PackedBends();
        DUE.is("16: both are", x.product(1, 1, 2, 2), -17);
        DUE.is("16: the one is not", x.product(11, 1, 2, 2), LOST);
        DUE.is("16: the other is not", x.product(1, 1, 22, 2), LOST);
        DUE.is("16: both are not", x.product(11, 1, 22, 2), LOST);
        DUE.is("16: 9 places each", x.product(121212121, 1, 121212121, 1), 1);
    }

    /** Nine places each, and no circle near the other. */
    private static void productOfTheFarthest() {
        PackedBends x = new PackedBends();
        DUE.is("16: far away", x.product(123412341, 1, 432143214, 4), -407881201);
        DUE.is("16: the other way round", x.product(432143214, 4, 123412341, 1), -407881201);
        DUE.is("16: as slow", new SlowBends().product(123412341, 1, 432143214, 4), -407881201);
    }

    /** 'Two circles TOUCH, if their PRODUCT is -1': by 1 (it is the same) or by less they do not. */
    private static void touchingOnlyByMinusOne() {
        PackedBends x = new PackedBends();
        int[] words = {0, 1, 12, 13, 123, 142, 3};
        for (int word : words) {
            for (int other : words) {
                for (int q = 1; q <= 4; q++) {
                    int due = 0;
                    for (int p = 1; p <= 4; p++) {
                        due += x.product(word, p, other, q) == -1 ? 1 : 0;
                    }
                    DUE.is("17: touching(" + word + ", " + other + ", " + q + ")", x.touching(word, other, q), due);
                }
            }
        }
        DUE.is("17: itself, by 1", x.touching(1, 1, 1), 3);
        DUE.is("17: the one put over, by -7", x.touching(0, 1, 1), 3);
    }

    private static void touchingFromNoneToThree() {
        PackedBends x = new PackedBends();
        DUE.is("17: none", x.touching(0, 1234, 4), 0);
        DUE.is("17: one", x.touching(0, 123, 3), 1);
        DUE.is("17: two", x.touching(0, 12, 2), 2);
        DUE.is("17: three", x.touching(0, 1, 1), 3);
        DUE.is("17: 9 places each", x.touching(121212121, 121212121, 4), 3);
    }

    private static void unknownAheadOfOutside() {
        PackedBends x = new PackedBends();
        for (int place : NO_PLACES) {
            DUE.is("17: the one is no WORD", x.touching(11, 1, place), UNKNOWN);
            DUE.is("17: the other is no WORD", x.touching(1, 11, place), UNKNOWN);
            DUE.is("17: both are no WORDS", x.touching(-1, 5, place), UNKNOWN);
        }
    }

    /** Words start from ROOT, in its order, and not from THE QUADRUPLE, nor from what was asked before. */
    private static void wordsStartFromRoot() {
        PackedBends x = new PackedBends();
        x.set(14, -6, 15, 11);
        x.turn(2);
        x.turn(1);
        DUE.is("14: the first of ROOT", x.bendOf(0, 1), -6);
        DUE.is("14: the first the highest", x.bendOf(12, 2), 2 * (86 + 14 + 15) - 11);
        DUE.is("14: no other asked before", x.bendOf(12, 2), 2 * (86 + 14 + 15) - 11);
        DUE.is("14: a word refused before", x.bendOf(1211, 2), LOST);
        DUE.is("14: again", x.bendOf(12, 1), 86);
        x.back(0);
        x.set(0, 1, 1, 0);
        DUE.is("14: another ROOT", x.bendOf(1, 1), 4);
        DUE.is("14: another ROOT", x.bendOf(3, 3), 1);
    }
}
