/** The edges of promises 1 to 8, a method for each sentence of the document that names one. */
public final class QuadrupleEdgesTest {
    private static final int OUTSIDE = PackedBends.OUTSIDE;
    private static final int STATE = PackedBends.STATE;
    private static final int OVER = PackedBends.OVER;
    private static final int NONE = PackedBends.NONE;
    private static final long LOST = PackedBends.LOST;
    private static final int[] NO_PLACES = {0, 5, -1, Integer.MIN_VALUE, Integer.MAX_VALUE};
    private static final Due DUE = new Due();

    public static void main(String[] args) {
        nothingAtFirst();
        objectsShareNothing();
        goodBySquares();
        goodAboveNothing();
        leastBendOfSet();
        greatestBendOfSet();
        placesOfBend();
        placesOfTurn();
        turnStaysGood();
        overJustAbove();
        overIsNoWrapAround();
        turnBackToTheLeastBend();
        stepOnlyIfItBecomesLess();
        stepsFromNoneToMost();
        stepFromFirstToLast();
        rootInOrder();
        rootFromFirstToLast();
        commonFromOneToMost();
        boundOnlyBelowNothing();
        lastOf512Calls();
        DUE.end();
    }

    /** Promise 1: 'No COPIES, no SHELVES.' And: 'THE QUADRUPLE is -1, 2, 2, 3 at first.' */
    private static void nothingAtFirst() {
        PackedBends x = new PackedBends();
        bends(x, -1, 2, 2, 3);
        for (int what = 0; what < 3; what++) {
            DUE.is("1: many(" + what + ")", x.many(what), 0);
        }
        for (int i = 0; i < 3; i++) {
            DUE.is("1: back(" + i + ")", x.back(i), STATE);
            DUE.is("1: lay(" + i + ", 0, 1)", x.lay(i, 0, 1), PackedBends.MISSING);
        }
    }

    private static void objectsShareNothing() {
        PackedBends x = new PackedBends();
        PackedBends y = new PackedBends();
        x.keep(0);
        x.shelf(0, 3, 1);
        x.lay(0, 0, 1);
        x.set(-2, 3, 6, 7);
        bends(y, -1, 2, 2, 3);
        DUE.is("1: another's copy", y.back(0), STATE);
        DUE.is("1: another's shelf", y.many(0), 0);
        DUE.is("1: another's packing", y.least(0), -1);
    }

    /** 'GOOD, if twice their squares together are the square of all four together': one more or less is not. */
    private static void goodBySquares() {
        PackedBends x = new PackedBends();
        for (int place = 0; place < 4; place++) {
            for (int more = -1; more <= 1; more++) {
                int[] q = {-6, 11, 14, 15};
                q[place] += more;
                DUE.is("2: " + more + " at " + place, x.set(q[0], q[1], q[2], q[3]), more == 0 ? 1 : STATE);
            }
        }
        // As numbers of 32 bits both sides would be alike.
        DUE.is("2: 65536 squared", x.set(65536, 0, 0, 0), STATE);
        DUE.is("2: 65536 squared", x.set(0, 0, 0, 65536 * 2), STATE);
    }

    /** 'and these are above 0': of the least sum above, of 0, and of the contrary. */
    private static void goodAboveNothing() {
        PackedBends x = new PackedBends();
        DUE.is("2: 2 together", x.set(0, 1, 0, 1), 1);
        DUE.is("2: 0 together", x.set(0, 0, 0, 0), STATE);
        DUE.is("2: -2 together", x.set(0, -1, 0, -1), STATE);
        DUE.is("2: -6 together", x.set(1, -2, -2, -3), STATE);
        bends(x, 0, 1, 0, 1);
    }

    /** Promise 2: 'OUTSIDE: a BEND is not -100000 .. 1000000', the lower end at each place. */
    private static void leastBendOfSet() {
        for (int shift = 0; shift < 4; shift++) {
            PackedBends x = new PackedBends();
            DUE.is("2: -100000 at " + shift, setShifted(x, -100000, 200000, 200000, 300000, shift), 1);
            DUE.is("2: -100000 is there", x.bend(1 + shift), -100000);
            DUE.is("2: -100001 at " + shift, setShifted(x, -100001, 200002, 200002, 300003, shift), OUTSIDE);
            DUE.is("2: -100001 is not there", x.bend(1 + shift), -100000);
            DUE.is("2: -100000, not GOOD", setShifted(x, -100000, 1, 1, 1, shift), STATE);
            DUE.is("2: -100001, not GOOD", setShifted(x, -100001, 1, 1, 1, shift), OUTSIDE);
        }
    }

    /** Promise 2, the upper end at each place. */
    private static void greatestBendOfSet() {
        for (int shift = 0; shift < 4; shift++) {
            PackedBends x = new PackedBends();
            DUE.is("2: 1000000 at " + shift, setShifted(x, 1000000, 0, 1, 998001, shift), 1);
            DUE.is("2: 1000000 is there", x.bend(1 + shift), 1000000);
            // GOOD, and just this one bend is outside.
            DUE.is("2: 1000001 at " + shift, setShifted(x, 1000001, -4, 8609, 823080, shift), OUTSIDE);
            DUE.is("2: it is not there", x.bend(1 + shift), 1000000);
            DUE.is("2: 1000000, not GOOD", setShifted(x, 1000000, 1, 1, 1, shift), STATE);
            DUE.is("2: 1000001, not GOOD", setShifted(x, 1000001, 1, 1, 1, shift), OUTSIDE);
        }
    }

    /** Promise 3: 'LOST: UNKNOWN', with 'PLACES 1 to 4'. */
    private static void placesOfBend() {
        PackedBends x = new PackedBends();
        x.set(3, 7, -2, 6);
        DUE.is("3: the first", x.bend(1), 3);
        DUE.is("3: the last", x.bend(4), 6);
        for (int w : NO_PLACES) {
            DUE.is("3: bend(" + w + ")", x.bend(w), LOST);
        }
    }

    /** Promise 4: 'UNKNOWN', ahead of OVER where both fit. */
    private static void placesOfTurn() {
        PackedBends x = new PackedBends();
        DUE.is("4: the first", x.turn(1), 1);
        DUE.is("4: the last", x.turn(4), 1);
        bends(x, 15, 2, 2, 35);
        for (int w : NO_PLACES) {
            DUE.is("4: turn(" + w + ")", x.turn(w), PackedBends.UNKNOWN);
        }
        bends(x, 15, 2, 2, 35);
        x = upToFortySquared();
        for (int w : NO_PLACES) {
            DUE.is("4: UNKNOWN ahead of OVER", x.turn(w), PackedBends.UNKNOWN);
        }
    }

    /** 'TURNED at a PLACE: .. (so it stays GOOD)'. */
    private static void turnStaysGood() {
        int[][] roots = {{-1, 2, 2, 3}, {0, 0, 1, 1}, {-15, 24, 40, 49}};
        for (int[] r : roots) {
            PackedBends x = new PackedBends();
            x.set(r[0], r[1], r[2], r[3]);
            for (int i = 0; i < 9; i++) {
                x.turn(1 + i * 3 % 4);
                PackedBends y = new PackedBends();
                boolean isGiven = x.bend(1) <= 1000000 && x.bend(2) <= 1000000 && x.bend(3) <= 1000000 && x.bend(4) <= 1000000;
                int due = isGiven ? 1 : OUTSIDE;
                DUE.is("4: GOOD", y.set((int) x.bend(1), (int) x.bend(2), (int) x.bend(3), (int) x.bend(4)), due);
            }
        }
    }

    /** 'OVER (a BEND would be above 1000000000 ..)', at each place: just that is allowed, one more is not. */
    private static void overJustAbove() {
        for (int shift = 0; shift < 4; shift++) {
            PackedBends x = new PackedBends();
            // 1600 times 625000: the chain along a line has the squares of 1, 2, .. 40.
            setShifted(x, 0, 0, 625000, 625000, shift);
            for (int n = 2; n < 40; n++) {
                turnShifted(x, n % 2 == 0 ? 1 : 3, shift);
            }
            DUE.is("4: just 1000000000", turnShifted(x, 1, shift), 1);
            DUE.is("4: just 1000000000", x.bend(1 + shift), 1000000000);
            DUE.is("4: and on", turnShifted(x, 3, shift), OVER);
            DUE.is("5: 39 steps", x.steps(), 39);

            // 1729 times 578369 is 1000000001.
            setShifted(x, 0, 0, 578369, 578369, shift);
            int[] row = {1, 3, 4, 2, 1, 4};
            for (int place : row) {
                DUE.is("4: on the way", turnShifted(x, place, shift), 1);
            }
            long before = x.bend((2 + shift) % 4 + 1);
            DUE.is("4: 1000000001", turnShifted(x, 3, shift), OVER);
            DUE.is("4: stays", x.bend((2 + shift) % 4 + 1), before);
            DUE.is("5: stays", x.steps(), 6);
        }
    }

    /** A bend of 3902500000 would be -392467296 by 32 bits, and that is not above 1000000000. */
    private static void overIsNoWrapAround() {
        PackedBends x = upToFortySquared();
        DUE.is("4: 3902500000", x.turn(2), OVER);
        DUE.is("4: 3900625000 and more", x.turn(4), OVER);
        bends(x, 1000000000, 0, 950625000, 625000);
    }

    /** '.. or below its contrary': no bend comes below -100000, for set gives none; down to that it goes. */
    private static void turnBackToTheLeastBend() {
        PackedBends x = new PackedBends();
        x.set(-100000, 200000, 200000, 300000);
        DUE.is("4: over", x.turn(1), 1);
        bends(x, 1500000, 200000, 200000, 300000);
        DUE.is("4: and back", x.turn(1), 1);
        bends(x, -100000, 200000, 200000, 300000);
    }

    /**
     * 'as long as the greatest BEND (of several that of the least PLACE) becomes less when it is TURNED': where it
     * stays as it is, or there are two greatest, there is no step; 4 to 0 is the least step there can be.
     */
    private static void stepOnlyIfItBecomesLess() {
        int[][] stay = {{-1, 2, 2, 3}, {3, 2, 2, -1}, {0, 0, 1, 1}, {1, 0, 1, 0}, {-6, 19, 10, 15}};
        for (int[] q : stay) {
            PackedBends x = new PackedBends();
            x.set(q[0], q[1], q[2], q[3]);
            DUE.is("5: it stays as it is", x.steps(), 0);
            DUE.is("6: it stays as it is", x.step(0), NONE);
        }
        PackedBends x = new PackedBends();
        x.set(-3, 8, 5, 8);
        DUE.is("5: two greatest", x.steps(), 0);
        x.set(1, 4, 0, 1);
        DUE.is("5: 4 to 0", x.steps(), 1);
        DUE.is("6: 4 to 0", x.step(0), 2);
        x.set(2, 2, 15, 3);
        DUE.is("5: below 0", x.steps(), 1);
        DUE.is("7: below 0", x.root(0), -1);
    }

    private static void stepsFromNoneToMost() {
        PackedBends x = new PackedBends();
        DUE.is("5: none", x.steps(), 0);
        x.turn(2);
        DUE.is("5: one", x.steps(), 1);
        x.turn(2);
        DUE.is("5: none again", x.steps(), 0);
        x.set(998001, 0, 1000000, 1);
        DUE.is("5: the most of what can be set", x.steps(), 999);
    }

    /** Promise 6: 'The PLACE of the k-th STEP (from 0 on); NONE: there are fewer. OUTSIDE: k is below 0.' */
    private static void stepFromFirstToLast() {
        PackedBends x = new PackedBends();
        DUE.is("6: no steps", x.step(0), NONE);
        int[] row = {3, 1, 4, 2};
        for (int place : row) {
            x.turn(place);
        }
        DUE.is("6: the first", x.step(0), 2);
        DUE.is("6: the last", x.step(3), 3);
        DUE.is("6: behind the last", x.step(4), NONE);
        DUE.is("6: far behind", x.step(Integer.MAX_VALUE), NONE);
        DUE.is("6: -1", x.step(-1), OUTSIDE);
        DUE.is("6: MIN", x.step(Integer.MIN_VALUE), OUTSIDE);
        x.set(-1, 2, 2, 3);
        DUE.is("6: -1 without steps", x.step(-1), OUTSIDE);
    }

    /** 'then all four in order, the least first', for each order that they may come in. */
    private static void rootInOrder() {
        int[] q = {-6, 11, 14, 15};
        for (int code = 0; code < 256; code++) {
            int a = code % 4;
            int b = code / 4 % 4;
            int c = code / 16 % 4;
            int d = code / 64;
            if ((1 << a | 1 << b | 1 << c | 1 << d) == 15) {
                PackedBends x = new PackedBends();
                x.set(q[a], q[b], q[c], q[d]);
                roots(x, -6, 11, 14, 15);
                x.turn(2);
                x.turn(3);
                roots(x, -6, 11, 14, 15);
            }
        }
        PackedBends x = new PackedBends();
        x.set(8, -3, 8, 5);
        roots(x, -3, 5, 8, 8);
    }

    /** Promise 7: 'The k-th BEND of ROOT (0 .. 3). LOST: OUTSIDE.' */
    private static void rootFromFirstToLast() {
        PackedBends x = new PackedBends();
        DUE.is("7: root(0)", x.root(0), -1);
        DUE.is("7: root(3)", x.root(3), 3);
        DUE.is("7: root(-1)", x.root(-1), LOST);
        DUE.is("7: root(4)", x.root(4), LOST);
        DUE.is("7: root(MIN)", x.root(Integer.MIN_VALUE), LOST);
        DUE.is("7: root(MAX)", x.root(Integer.MAX_VALUE), LOST);
    }

    /** 'COMMON: the greatest whole number that divides all four BENDS', 0 and those below 0 among them. */
    private static void commonFromOneToMost() {
        PackedBends x = new PackedBends();
        x.set(0, 1, 0, 1);
        DUE.is("8: 0 and 1", x.common(), 1);
        x.set(-15, 24, 40, 49);
        DUE.is("8: any two have some", x.common(), 1);
        x.set(1000000, 0, 0, 1000000);
        DUE.is("8: the most", x.common(), 1000000);
        x.set(300000, 200000, 200000, -100000);
        DUE.is("8: below 0", x.common(), 100000);
        DUE.is("8: turned", x.turn(4), 1);
        DUE.is("8: turned", x.common(), 100000);
    }

    /** 'BOUND, if the first BEND of its ROOT is below 0': 0 is not, and THE QUADRUPLE itself need not have one. */
    private static void boundOnlyBelowNothing() {
        PackedBends x = new PackedBends();
        DUE.is("23: -1", x.many(3), 1);
        x.turn(1);
        DUE.is("23: -1, but not now", x.many(3), 1);
        x.set(0, 0, 1, 1);
        DUE.is("23: 0", x.many(3), 0);
        x.turn(1);
        x.turn(2);
        bends(x, 4, 12, 1, 1);
        DUE.is("23: 0, but not now", x.many(3), 0);
    }

    /** 'An object is used for at most 512 calls': the last of them is answered like the first. */
    private static void lastOf512Calls() {
        PackedBends x = new PackedBends();
        x.set(0, 1, 998001, 1000000);
        for (int call = 2; call <= 510; call++) {
            x.turn(call % 2 == 0 ? 3 : 4);
        }
        DUE.is("5: the 511th call", x.steps(), 1508);
        DUE.is("6: the 512th call", x.step(1507), 4);
    }

    private static PackedBends upToFortySquared() {
        PackedBends x = new PackedBends();
        x.set(0, 0, 625000, 625000);
        for (int n = 2; n <= 40; n++) {
            x.turn(n % 2 == 0 ? 1 : 3);
        }
        return x;
    }

    private static int setShifted(PackedBends x, int a, int b, int c, int d, int shift) {
        int[] q = new int[4];
        q[shift] = a;
        q[(shift + 1) % 4] = b;
        q[(shift + 2) % 4] = c;
        q[(shift + 3) % 4] = d;
        return x.set(q[0], q[1], q[2], q[3]);
    }

    private static int turnShifted(PackedBends x, int place, int shift) {
        return x.turn((place - 1 + shift) % 4 + 1);
    }

    private static void bends(PackedBends x, long a, long b, long c, long d) {
        DUE.is("3: bend(1)", x.bend(1), a);
        DUE.is("3: bend(2)", x.bend(2), b);
        DUE.is("3: bend(3)", x.bend(3), c);
        DUE.is("3: bend(4)", x.bend(4), d);
    }

    private static void roots(PackedBends x, long a, long b, long c, long d) {
        DUE.is("7: root(0)", x.root(0), a);
        DUE.is("7: root(1)", x.root(1), b);
        DUE.is("7: root(2)", x.root(2), c);
        DUE.is("7: root(3)", x.root(3), d);
    }
}
