/** Promises 9 to 13: upTo, just, least, remainders, gap. */
public final class PackingsTest {
    private static final long LOST = PackedBends.LOST;
    private static final Due DUE = new Due();

    public static void main(String[] args) {
        counts();
        countsByAllRows();
        countsAtTheEnds();
        countsAskedInAnyOrder();
        least();
        leastIsInOrder();
        remainders();
        remaindersByAllRows();
        gaps();
        notBound();
        outside();
        turningKeepsThePacking();
        DUE.end();
    }

    private static void counts() {
        PackedBends x = new PackedBends();
        DUE.is("9: upTo(-2)", x.upTo(-2), 0);
        DUE.is("9: upTo(-1)", x.upTo(-1), 1);
        DUE.is("9: upTo(1)", x.upTo(1), 1);
        DUE.is("9: upTo(2)", x.upTo(2), 3);
        DUE.is("9: upTo(3)", x.upTo(3), 5);
        DUE.is("9: upTo(60)", x.upTo(60), 85);
        DUE.is("10: just(-1)", x.just(-1), 1);
        DUE.is("10: just(0)", x.just(0), 0);
        DUE.is("10: just(2)", x.just(2), 2);
        DUE.is("10: just(3)", x.just(3), 2);
        DUE.is("10: just(6)", x.just(6), 4);
        DUE.is("10: just(7)", x.just(7), 0);
    }

    /** Bends along a row grow like squares at least: with twelve places all are above 60. */
    private static void countsByAllRows() {
        int[][] roots = {{-2, 3, 6, 7}, {-3, 5, 8, 8}, {-6, 11, 14, 15}, {-2, 4, 4, 6}};
        for (int[] r : roots) {
            int[] counts = new int[61];
            long[] root = {r[0], r[1], r[2], r[3]};
            for (long bend : root) {
                counts[(int) Math.max(bend, 0)]++;
            }
            countRows(root, -1, 12, counts);
            PackedBends x = new PackedBends();
            x.set(r[0], r[1], r[2], r[3]);
            int sum = counts[0];
            DUE.is("9: upTo(0)", x.upTo(0), sum);
            for (int n = 1; n <= 60; n++) {
                sum += counts[n];
                DUE.is("9: upTo(" + n + ") of " + r[0], x.upTo(n), sum);
                DUE.is("10: just(" + n + ") of " + r[0], x.just(n), counts[n]);
            }
        }
    }

    private static void countRows(long[] four, int last, int more, int[] counts) {
        for (int i = 0; i < 4 && more > 0; i++) {
            if (i != last) {
                long[] next = SlowBends.turned(four, i);
                if (next[i] <= 60) {
                    counts[(int) next[i]]++;
                }
                countRows(next, i, more - 1, counts);
            }
        }
    }

    private static void countsAtTheEnds() {
        PackedBends x = new PackedBends();
        DUE.is("9: upTo(5000)", x.upTo(5000), 27141);
        DUE.is("9: upTo(-100000)", x.upTo(-100000), 0);
        DUE.is("10: just(-100000)", x.just(-100000), 0);
        x.set(-100000, 200000, 200000, 300000);
        DUE.is("9: upTo(-100000)", x.upTo(-100000), 1);
        DUE.is("10: just(-100000)", x.just(-100000), 1);
        DUE.is("10: just(-99999)", x.just(-99999), 0);
        DUE.is("9: upTo(5000)", x.upTo(5000), 1);
        x.set(-2500, 5000, 5000, 7500);
        DUE.is("9: upTo(4999)", x.upTo(4999), 1);
        DUE.is("9: upTo(5000)", x.upTo(5000), 3);
        DUE.is("10: just(5000)", x.just(5000), 2);
    }

    private static void countsAskedInAnyOrder() {
        int[] order = {0, 5, 4, 11, 23, 22, 700, 699, 1401, 5000, 1, 0, 4999};
        PackedBends x = new PackedBends();
        x.set(-6, 11, 14, 15);
        for (int n : order) {
            PackedBends fresh = new PackedBends();
            fresh.set(-6, 11, 14, 15);
            DUE.is("9: upTo(" + n + ") in any order", x.upTo(n), fresh.upTo(n));
            DUE.is("10: just(" + n + ") in any order", x.just(n), fresh.just(n));
        }
        DUE.is("9: upTo(5000)", x.upTo(5000), 2627);
    }

    private static void least() {
        PackedBends x = new PackedBends();
        long[] first = {-1, 2, 2, 3, 3, 6, 6, 6, 6, 11, 11, 11, 11, 14, 14, 14, 14, 15, 15};
        for (int k = 0; k < first.length; k++) {
            DUE.is("11: least(" + k + ")", x.least(k), first[k]);
        }
        DUE.is("11: least(2000)", x.least(2000), 678);
        DUE.is("11: least(200)", x.least(200), 111);
        DUE.is("11: least(-1)", x.least(-1), LOST);
        DUE.is("11: least(2001)", x.least(2001), LOST);
        DUE.is("11: least(MAX)", x.least(Integer.MAX_VALUE), LOST);
        DUE.is("11: least(MIN)", x.least(Integer.MIN_VALUE), LOST);
        x.set(-100000, 200000, 200000, 300000);
        DUE.is("11: far above 5000", x.least(2000), 67800000);
        DUE.is("11: far above 5000", x.least(3), 300000);
        // Two great circles and two long chains of small ones: rows are up to a thousand places long.
        x.set(-999, 1000, 999000, 999001);
        DUE.is("11: least(1)", x.least(1), 1000);
        for (int k = 2; k <= 2000; k += 6) {
            long n = (k - 1) / 2;
            DUE.is("11: chain " + k, x.least(k), 999000 + n * n);
        }
    }

    private static void leastIsInOrder() {
        int[][] roots = {{-11, 21, 24, 28}, {-1, 2, 2, 3}, {-3, 5, 8, 8}, {-30, 31, 930, 931}};
        for (int[] r : roots) {
            PackedBends x = new PackedBends();
            for (int k = 0; k <= 2000 && (k == 0 || x.least(k - 1) <= 5000); k++) {
                // No object is promised to answer more than 512 calls.
                if (k % 80 == 0) {
                    x = new PackedBends();
                    x.set(r[0], r[1], r[2], r[3]);
                }
                if (x.least(k) <= 5000) {
                    inOrder(x, k, x.least(k));
                }
                // Asked first of all, it is the same.
                PackedBends fresh = new PackedBends();
                fresh.set(r[0], r[1], r[2], r[3]);
                DUE.is("11: least(" + k + ") at once", fresh.least(k), x.least(k));
            }
        }
    }

    private static void inOrder(PackedBends x, int k, long least) {
        int bend = (int) least;
        DUE.isTrue("11: least(" + k + ") has its turn", x.upTo(bend) > k && x.upTo(bend) - x.just(bend) <= k);
    }

    private static void remainders() {
        PackedBends x = new PackedBends();
        int[] due = {3, 5, 12, 31, 45, 127, 204, 365, 1023, 2047, 2124};
        for (int m = 2; m <= 12; m++) {
            DUE.is("12: remainders(" + m + ")", x.remainders(m), due[m - 2]);
        }
        x.set(0, 1, 4, 1);
        int[] strip = {3, 3, 3, 31, 27, 127, 19, 219, 1023, 2047, 531};
        for (int m = 2; m <= 12; m++) {
            DUE.is("12: not bound, remainders(" + m + ")", x.remainders(m), strip[m - 2]);
        }
        for (int m = 2; m <= 12; m++) {
            x.set(-m, 2 * m, 2 * m, 3 * m);
            DUE.is("12: all bends divided by " + m, x.remainders(m), 1);
        }
    }

    /** Rows of up to ten places have all remainders already; and no row has others. */
    private static void remaindersByAllRows() {
        int[][] roots = {{-2, 3, 6, 7}, {-3, 5, 8, 8}, {-6, 10, 15, 19}, {-4, 8, 9, 9}, {0, 0, 3, 3}, {-15, 24, 40, 49}};
        for (int[] r : roots) {
            PackedBends x = new PackedBends();
            x.set(r[0], r[1], r[2], r[3]);
            int[] sets = new int[13];
            collect(new long[] {r[0], r[1], r[2], r[3]}, -1, 10, sets);
            for (int m = 2; m <= 12; m++) {
                DUE.is("12: remainders(" + m + ") of " + r[0], x.remainders(m), sets[m]);
            }
        }
    }

    private static void collect(long[] four, int last, int more, int[] sets) {
        for (int m = 2; m <= 12; m++) {
            for (long bend : four) {
                sets[m] |= 1 << (bend % m + m) % m;
            }
        }
        for (int i = 0; i < 4 && more > 0; i++) {
            if (i != last) {
                collect(SlowBends.turned(four, i), i, more - 1, sets);
            }
        }
    }

    private static void gaps() {
        PackedBends x = new PackedBends();
        DUE.is("13: none up to 77", x.gap(77, -1), 0);
        DUE.is("13: 78 is the first", x.gap(78, 0), 78);
        DUE.is("13: one up to 78", x.gap(78, -1), 1);
        DUE.is("13: no second up to 78", x.gap(78, 1), PackedBends.NONE);
        DUE.is("13: up to 5000", x.gap(5000, -1), 28);
        DUE.is("13: the last", x.gap(5000, 27) > 78 ? 1 : 0, 1);
        DUE.is("13: behind the last", x.gap(5000, 28), PackedBends.NONE);
        DUE.is("13: gap(1, -1)", x.gap(1, -1), 0);
        DUE.is("13: gap(1, 0)", x.gap(1, 0), PackedBends.NONE);
        DUE.is("13: gap(5000, 5000)", x.gap(5000, 5000), PackedBends.NONE);
        x.set(-6, 11, 14, 15);
        int[] first = {2, 3, 6, 18, 27};
        for (int k = 0; k < first.length; k++) {
            DUE.is("13: gap(300, " + k + ")", x.gap(300, k), first[k]);
        }
        DUE.is("13: gap(300, -1)", x.gap(300, -1), 46);
        DUE.is("13: gap(2, 0): the end itself", x.gap(2, 0), 2);
        for (int k = 0; k < 438; k += 2) {
            int gap = x.gap(5000, k);
            DUE.isTrue("13: no bend, but its remainder: " + gap, x.just(gap) == 0 && (2124 >> gap % 12 & 1) == 1);
        }
        x.set(-12, 25, 25, 28);
        DUE.is("13: 1 may be one", x.gap(1, 0), 1);
        DUE.is("13: and the only one", x.gap(1, -1), 1);
        x.set(-24, 48, 48, 72);
        // Bends are 24 times those of the first packing, so each remainder is 0: 12 and 24 are gaps, 48 is none.
        DUE.is("13: 12", x.gap(100, 0), 12);
        DUE.is("13: 24", x.gap(100, 1), 24);
        DUE.is("13: 36", x.gap(100, 2), 36);
        DUE.is("13: 60", x.gap(100, 3), 60);
    }

    private static void notBound() {
        PackedBends x = new PackedBends();
        x.set(0, 1, 4, 1);
        DUE.is("9: not bound", x.upTo(5), PackedBends.STATE);
        DUE.is("10: not bound", x.just(5), PackedBends.STATE);
        DUE.is("11: not bound", x.least(0), LOST);
        DUE.is("13: not bound", x.gap(5, -1), PackedBends.STATE);
        DUE.is("9: outside comes first", x.upTo(5001), PackedBends.OUTSIDE);
        DUE.is("10: outside comes first", x.just(-100001), PackedBends.OUTSIDE);
        DUE.is("13: outside comes first", x.gap(0, 0), PackedBends.OUTSIDE);
        DUE.is("13: outside comes first", x.gap(5, -2), PackedBends.OUTSIDE);
        x.turn(3);
        DUE.is("9: still not bound", x.upTo(5), PackedBends.STATE);
        x.set(-1, 2, 2, 3);
        DUE.is("9: bound again", x.upTo(3), 5);
    }

    private static void outside() {
        PackedBends x = new PackedBends();
        int[] bends = {5001, -100001, Integer.MIN_VALUE, Integer.MAX_VALUE};
        for (int n : bends) {
            DUE.is("9: upTo(" + n + ")", x.upTo(n), PackedBends.OUTSIDE);
            DUE.is("10: just(" + n + ")", x.just(n), PackedBends.OUTSIDE);
            DUE.is("13: gap(" + n + ", 0)", x.gap(n, 0), PackedBends.OUTSIDE);
            DUE.is("13: gap(5, " + n + ")", x.gap(5, n), PackedBends.OUTSIDE);
        }
        int[] divisors = {1, 13, 0, -2, Integer.MIN_VALUE, Integer.MAX_VALUE};
        for (int m : divisors) {
            DUE.is("12: remainders(" + m + ")", x.remainders(m), PackedBends.OUTSIDE);
        }
        DUE.is("13: gap(0, 0)", x.gap(0, 0), PackedBends.OUTSIDE);
        DUE.is("13: gap(5, -2)", x.gap(5, -2), PackedBends.OUTSIDE);
    }

    private static void turningKeepsThePacking() {
        PackedBends x = new PackedBends();
        int count = x.upTo(700);
        for (int i = 0; i < 9; i++) {
            x.turn(1 + i * 7 % 4);
            DUE.is("9: turned", x.upTo(700), count);
            DUE.is("11: turned", x.least(200), 111);
            DUE.is("12: turned", x.remainders(12), 2124);
        }
        // And another packing is not taken for the one before.
        x.set(-2, 3, 6, 7);
        DUE.is("9: another", x.upTo(7), 5);
        DUE.is("11: another", x.least(0), -2);
        DUE.is("12: another", x.remainders(4), 12);
        x.set(-2, 4, 4, 6);
        DUE.is("9: and another", x.upTo(7), 5);
        DUE.is("11: and another", x.least(1), 4);
        DUE.is("12: and another", x.remainders(4), 5);
    }
}
