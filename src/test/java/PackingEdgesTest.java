/** The edges of promises 9 to 13, a method for each sentence of the document that names one. */
public final class PackingEdgesTest {
    private static final int OUTSIDE = PackedBends.OUTSIDE;
    private static final int STATE = PackedBends.STATE;
    private static final int NONE = PackedBends.NONE;
    private static final long LOST = PackedBends.LOST;
    private static final int MIN = Integer.MIN_VALUE;
    private static final int MAX = Integer.MAX_VALUE;
    private static final Due DUE = new Due();

    public static void main(String[] args) {
        upToFromLeastToMost();
        upToCountsTheEndItself();
        firstQuestionOfANewObject();
        justFromLeastToMost();
        eachRowCounts();
        noPlaceTwiceRunning();
        theFourOfRootCountOnce();
        leastFromFirstToLast();
        leastAsOftenAsItComes();
        stateOnlyIfNotBound();
        outsideAheadOfState();
        remaindersFromTwoToTwelve();
        remaindersBelowNothing();
        remaindersBoundOrNot();
        remaindersOfAllThereAre();
        gapEnds();
        gapNumbers();
        gapsFromOneToTheEndItself();
        gapsByTwelve();
        noGapsAndMostGaps();
        anotherPackingForgetsAll();
        DUE.end();
    }

    private static PackedBends of(int a, int b, int c, int d) {
        PackedBends x = new PackedBends();
        DUE.is("2: set(" + a + ", ..)", x.set(a, b, c, d), 1);
        return x;
    }

    /** Promise 9: 'a BEND of n (-100000 .. 5000) at most. OUTSIDE'. */
    private static void upToFromLeastToMost() {
        PackedBends x = of(-2500, 5000, 5000, 7500);
        DUE.is("9: upTo(-100000)", x.upTo(-100000), 0);
        DUE.is("9: upTo(-100001)", x.upTo(-100001), OUTSIDE);
        DUE.is("9: upTo(5000)", x.upTo(5000), 3);
        DUE.is("9: upTo(5001)", x.upTo(5001), OUTSIDE);
        DUE.is("9: upTo(MIN)", x.upTo(MIN), OUTSIDE);
        DUE.is("9: upTo(MAX)", x.upTo(MAX), OUTSIDE);
        x.set(-100000, 200000, 200000, 300000);
        DUE.is("9: upTo(-100000) has one", x.upTo(-100000), 1);
        DUE.is("9: upTo(5000) has no more", x.upTo(5000), 1);
        DUE.is("9: the fullest", new PackedBends().upTo(5000), 27141);
    }

    private static void upToCountsTheEndItself() {
        PackedBends x = of(-6, 10, 15, 19);
        int[][] due = {{-7, 0}, {-6, 1}, {-5, 1}, {-1, 1}, {0, 1}, {1, 1}, {9, 1}, {10, 2}, {14, 2}, {15, 3}, {18, 3}, {19, 5}};
        for (int[] row : due) {
            DUE.is("9: upTo(" + row[0] + ")", x.upTo(row[0]), row[1]);
        }
    }

    /** A new object's packing is asked nothing before: at the least and the greatest end of what circles it has. */
    private static void firstQuestionOfANewObject() {
        DUE.is("9: upTo(0)", new PackedBends().upTo(0), 1);
        DUE.is("9: upTo(1)", new PackedBends().upTo(1), 1);
        DUE.is("9: upTo(2)", new PackedBends().upTo(2), 3);
        DUE.is("10: just(-1)", new PackedBends().just(-1), 1);
        DUE.is("10: just(0)", new PackedBends().just(0), 0);
        DUE.is("10: just(1)", new PackedBends().just(1), 0);
        DUE.is("11: least(0)", new PackedBends().least(0), -1);
        DUE.is("11: least(1)", new PackedBends().least(1), 2);
        DUE.is("11: least(2000)", new PackedBends().least(2000), 678);
        DUE.is("13: gap(1, -1)", new PackedBends().gap(1, -1), 0);
        DUE.is("13: gap(1, 0)", new PackedBends().gap(1, 0), NONE);
        DUE.is("13: gap(78, 0)", new PackedBends().gap(78, 0), 78);
    }

    /** Promise 10: 'How many have just that BEND (-100000 .. 5000).' */
    private static void justFromLeastToMost() {
        PackedBends x = of(-2500, 5000, 5000, 7500);
        DUE.is("10: just(-100000)", x.just(-100000), 0);
        DUE.is("10: just(-100001)", x.just(-100001), OUTSIDE);
        DUE.is("10: just(5000)", x.just(5000), 2);
        DUE.is("10: just(4999)", x.just(4999), 0);
        DUE.is("10: just(5001)", x.just(5001), OUTSIDE);
        DUE.is("10: just(MIN)", x.just(MIN), OUTSIDE);
        DUE.is("10: just(MAX)", x.just(MAX), OUTSIDE);
        DUE.is("10: just(-2501)", x.just(-2501), 0);
        DUE.is("10: just(-2500)", x.just(-2500), 1);
        DUE.is("10: just(-2499)", x.just(-2499), 0);
        DUE.is("10: just(-1)", x.just(-1), 0);
        DUE.is("10: just(0)", x.just(0), 0);
        DUE.is("10: just(1)", x.just(1), 0);
        x.set(-100000, 200000, 200000, 300000);
        DUE.is("10: just(-100000) is one", x.just(-100000), 1);
    }

    /** '(Each row counts, be BENDS alike.)': 3 turned is 3 once more, and 6 comes twice for each of these. */
    private static void eachRowCounts() {
        PackedBends x = new PackedBends();
        DUE.is("10: 3 and 3 turned", x.just(3), 2);
        DUE.is("10: 2 turned, at two places, under either 3", x.just(6), 4);
        DUE.is("9: all of these", x.upTo(6), 9);
    }

    /** 'no PLACE twice running': to turn twice is to stay, and would make the root's bends come again. */
    private static void noPlaceTwiceRunning() {
        PackedBends x = of(-6, 11, 14, 15);
        DUE.is("10: 11 once", x.just(11), 1);
        DUE.is("10: 14 once", x.just(14), 1);
        DUE.is("10: 15 once", x.just(15), 1);
        DUE.is("10: 23 once", x.just(23), 1);
    }

    /** 'the four of ROOT; and for each row of one or more PLACES': circles before the first turned one. */
    private static void theFourOfRootCountOnce() {
        PackedBends x = of(-6, 11, 14, 15);
        DUE.is("9: below all turned ones", x.upTo(22), 4);
        DUE.is("9: with the first of these", x.upTo(23), 5);
        // The same packing, told by a quadruple far from its root.
        x.turn(1);
        x.turn(3);
        DUE.is("9: the root's, not these four", x.upTo(22), 4);
    }

    /** Promise 11: 'The k-th BEND (0 .. 2000, from 0 on) .. LOST: OUTSIDE'. */
    private static void leastFromFirstToLast() {
        PackedBends x = new PackedBends();
        DUE.is("11: least(0)", x.least(0), -1);
        DUE.is("11: least(1)", x.least(1), 2);
        DUE.is("11: least(2000)", x.least(2000), 678);
        DUE.is("11: least(-1)", x.least(-1), LOST);
        DUE.is("11: least(2001)", x.least(2001), LOST);
        DUE.is("11: least(MIN)", x.least(MIN), LOST);
        DUE.is("11: least(MAX)", x.least(MAX), LOST);
        PackedBends far = of(-100000, 200000, 200000, 300000);
        DUE.is("11: 100000 times as great", far.least(2000), 67800000);
        DUE.is("11: 100000 times as great", far.least(0), -100000);
        // The longest chain that can be set: rows of a thousand places.
        PackedBends chain = of(-999, 1000, 999000, 999001);
        DUE.is("11: at the end of a chain", chain.least(2000), 999000 + 999 * 999);
    }

    /** 'of all CIRCLES in order, the least first (each as often as it comes)'. */
    private static void leastAsOftenAsItComes() {
        PackedBends x = of(-3, 5, 8, 8);
        int k = 0;
        for (int n = -3; n <= 150; n++) {
            int times = x.just(n);
            for (int i = 0; i < times; i++) {
                DUE.is("11: least(" + k + ")", x.least(k), n);
                k++;
            }
        }
        DUE.is("11: as many as up to 150", k, x.upTo(150));
    }

    /** '(STATE: THE QUADRUPLE is not BOUND)': for each call of these that can be so refused. */
    private static void stateOnlyIfNotBound() {
        PackedBends x = of(0, 0, 1, 1);
        for (int turned = 0; turned < 3; turned++) {
            DUE.is("9: 0", x.upTo(5), STATE);
            DUE.is("10: 0", x.just(1), STATE);
            DUE.is("11: 0", x.least(0), LOST);
            DUE.is("13: 0", x.gap(5, -1), STATE);
            DUE.is("13: 0", x.gap(5, 0), STATE);
            x.turn(1 + turned);
        }
        x.set(2, 15, 2, 3);
        DUE.is("9: -1, though none is below 0", x.upTo(3), 5);
        DUE.is("10: -1", x.just(-1), 1);
        DUE.is("11: -1", x.least(0), -1);
        DUE.is("13: -1", x.gap(78, -1), 1);
    }

    private static void outsideAheadOfState() {
        PackedBends x = of(0, 0, 1, 1);
        DUE.is("9: upTo(5000)", x.upTo(5000), STATE);
        DUE.is("9: upTo(5001)", x.upTo(5001), OUTSIDE);
        DUE.is("9: upTo(-100000)", x.upTo(-100000), STATE);
        DUE.is("9: upTo(-100001)", x.upTo(-100001), OUTSIDE);
        DUE.is("10: just(5000)", x.just(5000), STATE);
        DUE.is("10: just(5001)", x.just(5001), OUTSIDE);
        DUE.is("10: just(-100000)", x.just(-100000), STATE);
        DUE.is("10: just(-100001)", x.just(-100001), OUTSIDE);
        DUE.is("13: gap(1, -1)", x.gap(1, -1), STATE);
        DUE.is("13: gap(0, -1)", x.gap(0, -1), OUTSIDE);
        DUE.is("13: gap(5000, 5000)", x.gap(5000, 5000), STATE);
        DUE.is("13: gap(5001, 5000)", x.gap(5001, 5000), OUTSIDE);
        DUE.is("13: gap(5000, 5001)", x.gap(5000, 5001), OUTSIDE);
        DUE.is("13: gap(1, -2)", x.gap(1, -2), OUTSIDE);
    }

    /** Promise 12: 'REMAINDERS by m (2 .. 12) .. OUTSIDE'. */
    private static void remaindersFromTwoToTwelve() {
        PackedBends x = new PackedBends();
        DUE.is("12: remainders(2)", x.remainders(2), 3);
        DUE.is("12: remainders(12)", x.remainders(12), 2124);
        int[] wrong = {1, 13, 0, -1, -2, -12, MIN, MAX};
        for (int m : wrong) {
            DUE.is("12: remainders(" + m + ")", x.remainders(m), OUTSIDE);
        }
    }

    /**
     * '(0 to m - 1; also where a BEND is below 0)': -1 leaves m - 1. By some m nothing leaves 1, which -1 would
     * leave were its sign forgotten; and where all bends are m times another, 0 is the only one.
     */
    private static void remaindersBelowNothing() {
        PackedBends x = new PackedBends();
        for (int m = 2; m <= 12; m++) {
            DUE.is("12: m - 1, by " + m, x.remainders(m) >> m - 1, 1);
        }
        int[] withoutOne = {3, 4, 6, 8, 9, 12};
        for (int m : withoutOne) {
            DUE.is("12: not 1, by " + m, x.remainders(m) >> 1 & 1, 0);
        }
        for (int m = 2; m <= 12; m++) {
            DUE.is("12: 0 alone, by " + m, of(-m, 2 * m, 2 * m, 3 * m).remainders(m), 1);
        }
    }

    /** '(BOUND or not.)' */
    private static void remaindersBoundOrNot() {
        PackedBends x = of(0, 0, 1, 1);
        DUE.is("12: not BOUND, by 2", x.remainders(2), 3);
        DUE.is("12: not BOUND, by 12", x.remainders(12), 531);
        DUE.is("12: not BOUND, by 1", x.remainders(1), OUTSIDE);
        DUE.is("12: not BOUND, by 13", x.remainders(13), OUTSIDE);
        x.set(0, 0, 12, 12);
        DUE.is("12: not BOUND, 0 alone", x.remainders(12), 1);
    }

    /** 'those that BENDS of CIRCLES, of all there are, leave': not only those up to some end. */
    private static void remaindersOfAllThereAre() {
        PackedBends x = of(-100000, 200000, 200000, 300000);
        // All bends are 100000 times those of -1, 2, 2, 3, and 100000 leaves 10 by 11, 5 by 7, 1 by 3.
        DUE.is("12: by 11", x.remainders(11), 2047);
        DUE.is("12: by 7", x.remainders(7), 127);
        DUE.is("12: by 10", x.remainders(10), 1);
        DUE.is("12: by 3", x.remainders(3), 5);
    }

    /** Promise 13: 'GAPS up to n (1 .. 5000)', 'OUTSIDE: n'. */
    private static void gapEnds() {
        PackedBends x = of(-12, 25, 25, 28);
        DUE.is("13: gap(1, -1)", x.gap(1, -1), 1);
        DUE.is("13: gap(0, -1)", x.gap(0, -1), OUTSIDE);
        DUE.is("13: gap(5000, 0)", x.gap(5000, 0), 1);
        DUE.is("13: gap(5001, 0)", x.gap(5001, 0), OUTSIDE);
        DUE.is("13: gap(-1, 0)", x.gap(-1, 0), OUTSIDE);
        DUE.is("13: gap(MIN, 0)", x.gap(MIN, 0), OUTSIDE);
        DUE.is("13: gap(MAX, 0)", x.gap(MAX, 0), OUTSIDE);
    }

    /** Promise 13: 'how many (k -1), the k-th (from 0 on, the least first)', 'k (-1 .. 5000)', 'NONE: there are fewer'. */
    private static void gapNumbers() {
        PackedBends x = of(-6, 11, 14, 15);
        int count = x.gap(5000, -1);
        DUE.is("13: how many", count, 438);
        DUE.is("13: the first", x.gap(5000, 0), 2);
        int before = 0;
        for (int k = 0; k < count; k++) {
            int gap = x.gap(5000, k);
            DUE.isTrue("13: the least first: " + gap, gap > before);
            before = gap;
        }
        DUE.is("13: behind the last", x.gap(5000, count), NONE);
        DUE.is("13: gap(5000, 5000)", x.gap(5000, 5000), NONE);
        DUE.is("13: gap(5000, 5001)", x.gap(5000, 5001), OUTSIDE);
        DUE.is("13: gap(5000, -2)", x.gap(5000, -2), OUTSIDE);
        DUE.is("13: gap(5000, MIN)", x.gap(5000, MIN), OUTSIDE);
        DUE.is("13: gap(5000, MAX)", x.gap(5000, MAX), OUTSIDE);
    }

    /** 'whole numbers 1 to N that are no BEND of a CIRCLE': 0 is none, N may be one, and what a CIRCLE has is none. */
    private static void gapsFromOneToTheEndItself() {
        PackedBends x = of(-24, 48, 48, 72);
        DUE.is("13: not 0", x.gap(5000, 0), 12);
        DUE.is("13: up to 11", x.gap(11, -1), 0);
        DUE.is("13: up to 11", x.gap(11, 0), NONE);
        DUE.is("13: up to 12", x.gap(12, -1), 1);
        DUE.is("13: up to 12", x.gap(12, 0), 12);
        DUE.is("13: 36 is the third", x.gap(48, 2), 36);
        DUE.is("13: 48 is a BEND", x.gap(48, 3), NONE);
        DUE.is("13: 60 is the fourth", x.gap(60, 3), 60);
        DUE.is("13: 72 is a BEND", x.gap(72, -1), 4);
        x.set(-12, 24, 24, 36);
        DUE.is("13: 12, for -12 is not 12", x.gap(12, 0), 12);
    }

    /** 'though their remainder by 12 is among REMAINDERS by 12': what has another is no gap. */
    private static void gapsByTwelve() {
        PackedBends x = of(-6, 11, 14, 15);
        DUE.is("13: remainders are 2, 3, 6, 11", x.remainders(12), 2124);
        int[] first = {2, 3, 6, 18, 27};
        for (int k = 0; k < first.length; k++) {
            DUE.is("13: gap(27, " + k + ")", x.gap(27, k), first[k]);
        }
        DUE.is("13: gap(27, 5)", x.gap(27, 5), NONE);
        DUE.is("13: gap(27, -1)", x.gap(27, -1), 5);
        DUE.is("13: gap(26, -1)", x.gap(26, -1), 4);
    }

    private static void noGapsAndMostGaps() {
        PackedBends x = new PackedBends();
        DUE.is("13: none", x.gap(77, -1), 0);
        DUE.is("13: none", x.gap(77, 0), NONE);
        // But for the first, no circle has a bend up to 5000: each number with one of the four remainders is a gap.
        PackedBends far = of(-99997, 199994, 199994, 299991);
        DUE.is("12: 2, 3, 6, 11", far.remainders(12), 2124);
        int[] first = {2, 3, 6, 11};
        for (int k = 0; k < 1667; k += 7) {
            DUE.is("13: each is one", far.gap(5000, k), k / 4 * 12 + first[k % 4]);
        }
        DUE.is("13: how many", far.gap(5000, -1), 1667);
        DUE.is("13: the last", far.gap(5000, 1666), 4998);
        DUE.is("13: behind the last", far.gap(5000, 1667), NONE);
    }

    /** What was found out about one packing is no answer for the next, and comes again with the first. */
    private static void anotherPackingForgetsAll() {
        PackedBends x = new PackedBends();
        x.keep(0);
        for (int round = 0; round < 2; round++) {
            answers(x, 27141, 678, 2124, 28);
            x.set(-6, 11, 14, 15);
            DUE.is("9: another", x.upTo(5000), 2627);
            DUE.is("13: another", x.gap(5000, -1), 438);
            DUE.isTrue("11: another", x.least(2000) > 678 && x.least(0) == -6);
            x.set(0, 0, 1, 1);
            DUE.is("12: another", x.remainders(12), 531);
            x.back(0);
        }
        x.turn(4);
        answers(x, 27141, 678, 2124, 28);
    }

    private static void answers(PackedBends x, int upTo, int least, int remainders, int gaps) {
        DUE.is("9: upTo(5000)", x.upTo(5000), upTo);
        DUE.is("11: least(2000)", x.least(2000), least);
        DUE.is("12: remainders(12)", x.remainders(12), remainders);
        DUE.is("13: gap(5000, -1)", x.gap(5000, -1), gaps);
    }
}
