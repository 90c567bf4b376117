/** Promises 1 to 8: a new object, set, bend, turn, steps, step, root, common. */
public final class QuadruplesTest {
    private static final long LOST = PackedBends.LOST;
    private static final Due DUE = new Due();

    public static void main(String[] args) {
        newObject();
        set();
        setKeepsWhatWasWhenRefused();
        bend();
        turn();
        turnOver();
        stepsAndRoot();
        longestWayDown();
        strip();
        common();
        DUE.end();
    }

    private static void newObject() {
        PackedBends x = new PackedBends();
        bends(x, -1, 2, 2, 3);
        DUE.is("1: many(0)", x.many(0), 0);
        DUE.is("1: many(1)", x.many(1), 0);
        DUE.is("1: many(2)", x.many(2), 0);
        DUE.is("1: many(3)", x.many(3), 1);
        for (int i = 0; i < 3; i++) {
            DUE.is("1: back", x.back(i), PackedBends.STATE);
            DUE.is("1: lay", x.lay(i, 0, 1), PackedBends.MISSING);
            DUE.is("1: seen", x.seen(i, 0), LOST);
        }
    }

    private static void set() {
        PackedBends x = new PackedBends();
        DUE.is("2: a good one", x.set(3, -1, 2, 2), 1);
        bends(x, 3, -1, 2, 2);
        DUE.is("2: the least bend", x.set(-100000, 200000, 200000, 300000), 1);
        DUE.is("2: the greatest bend", x.set(0, 0, 1000000, 1000000), 1);
        bends(x, 0, 0, 1000000, 1000000);
        DUE.is("2: no two below 0", x.set(1, -2, -2, -3), PackedBends.STATE);
        DUE.is("2: the other way round", x.set(0, 0, -1, -1), PackedBends.STATE);
        DUE.is("2: all 0", x.set(0, 0, 0, 0), PackedBends.STATE);
        DUE.is("2: nearly good", x.set(-1, 2, 2, 4), PackedBends.STATE);
        DUE.is("2: greatest, not good", x.set(1000000, 1000000, 1000000, 1000000), PackedBends.STATE);
        int[] wrong = {-100001, 1000001, Integer.MIN_VALUE, Integer.MAX_VALUE};
        for (int w : wrong) {
            DUE.is("2: a outside", x.set(w, 2, 2, 3), PackedBends.OUTSIDE);
            DUE.is("2: b outside", x.set(-1, w, 2, 3), PackedBends.OUTSIDE);
            DUE.is("2: c outside", x.set(-1, 2, w, 3), PackedBends.OUTSIDE);
            DUE.is("2: d outside", x.set(-1, 2, 2, w), PackedBends.OUTSIDE);
        }
        DUE.is("2: good, but outside", x.set(-100001, 200002, 200002, 300003), PackedBends.OUTSIDE);
        DUE.is("2: good, but outside", x.set(0, 0, 1000001, 1000001), PackedBends.OUTSIDE);
    }

    private static void setKeepsWhatWasWhenRefused() {
        PackedBends x = new PackedBends();
        x.set(-2, 3, 6, 7);
        x.set(9, 9, 9, 9);
        x.set(-2, 3, 6, 1000001);
        bends(x, -2, 3, 6, 7);
        DUE.is("2: root stays", x.root(0), -2);
    }

    private static void bend() {
        PackedBends x = new PackedBends();
        x.set(15, 10, -6, 19);
        bends(x, 15, 10, -6, 19);
        int[] wrong = {0, 5, -1, Integer.MIN_VALUE, Integer.MAX_VALUE};
        for (int w : wrong) {
            DUE.is("3: bend(" + w + ")", x.bend(w), LOST);
        }
    }

    private static void turn() {
        PackedBends x = new PackedBends();
        DUE.is("4: turn(1)", x.turn(1), 1);
        bends(x, 15, 2, 2, 3);
        DUE.is("4: turn(4)", x.turn(4), 1);
        bends(x, 15, 2, 2, 35);
        DUE.is("4: turn(4) again", x.turn(4), 1);
        bends(x, 15, 2, 2, 3);
        DUE.is("4: turn(2)", x.turn(2), 1);
        bends(x, 15, 38, 2, 3);
        DUE.is("4: turn(3)", x.turn(3), 1);
        bends(x, 15, 38, 110, 3);
        int[] wrong = {0, 5, -1, Integer.MIN_VALUE, Integer.MAX_VALUE};
        for (int w : wrong) {
            DUE.is("4: turn(" + w + ")", x.turn(w), PackedBends.UNKNOWN);
        }
        bends(x, 15, 38, 110, 3);
    }

    private static void turnOver() {
        PackedBends x = new PackedBends();
        x.set(0, 0, 1000000, 1000000);
        DUE.is("4: to 4000000", x.turn(1), 1);
        DUE.is("4: to 12000000", x.turn(2), 1);
        DUE.is("4: to 33000000", x.turn(3), 1);
        DUE.is("4: to 97000000", x.turn(4), 1);
        DUE.is("4: to 280000000", x.turn(1), 1);
        DUE.is("4: to 808000000", x.turn(2), 1);
        bends(x, 280000000, 808000000, 33000000, 97000000);
        DUE.is("4: above 1000000000", x.turn(3), PackedBends.OVER);
        DUE.is("4: above 1000000000", x.turn(4), PackedBends.OVER);
        bends(x, 280000000, 808000000, 33000000, 97000000);
        DUE.is("4: steps stay", x.steps(), 6);

        // Along a line and a circle bends are 625000 times each square: 40 squared makes just 1000000000.
        x.set(0, 0, 625000, 625000);
        DUE.is("4: 2 squared", x.turn(1), 1);
        for (int n = 3; n <= 40; n++) {
            DUE.is("4: squared " + n, x.turn(n % 2 == 1 ? 3 : 1), 1);
        }
        DUE.is("4: just 1000000000", x.bend(1), 1000000000);
        DUE.is("4: above", x.turn(3), PackedBends.OVER);
        DUE.is("4: down again", x.turn(1), 1);

        // 1729 times 578369 is 1000000001.
        x.set(0, 0, 578369, 578369);
        int[] row = {1, 3, 4, 2, 1, 4};
        for (int place : row) {
            DUE.is("4: on the way up", x.turn(place), 1);
        }
        DUE.is("4: 1000000001", x.turn(3), PackedBends.OVER);
    }

    private static void stepsAndRoot() {
        PackedBends x = new PackedBends();
        DUE.is("5: steps() of the root", x.steps(), 0);
        DUE.is("6: step(0) of the root", x.step(0), PackedBends.NONE);
        x.set(3, 2, -1, 2);
        int[] row = {2, 3, 4, 1, 2, 1};
        for (int i = 0; i < row.length; i++) {
            x.turn(row[i]);
            DUE.is("5: steps() after " + (i + 1), x.steps(), i + 1);
        }
        for (int k = 0; k < row.length; k++) {
            DUE.is("6: step(" + k + ")", x.step(k), row[row.length - 1 - k]);
        }
        DUE.is("6: step(6)", x.step(6), PackedBends.NONE);
        DUE.is("6: step(MAX)", x.step(Integer.MAX_VALUE), PackedBends.NONE);
        DUE.is("6: step(-1)", x.step(-1), PackedBends.OUTSIDE);
        DUE.is("6: step(MIN)", x.step(Integer.MIN_VALUE), PackedBends.OUTSIDE);
        roots(x, -1, 2, 2, 3);
        bends(x, 1035, 522, 23, 62);
        int[] wrong = {-1, 4, Integer.MIN_VALUE, Integer.MAX_VALUE};
        for (int w : wrong) {
            DUE.is("7: root(" + w + ")", x.root(w), LOST);
        }
        x.set(19, 15, 10, -6);
        roots(x, -6, 10, 15, 19);
        // Turned at a place where nothing changes, no step leads back.
        x.set(-1, 2, 2, 3);
        x.turn(4);
        DUE.is("5: to its like", x.steps(), 0);
        bends(x, -1, 2, 2, 3);
    }

    private static void longestWayDown() {
        PackedBends x = new PackedBends();
        DUE.is("5: set", x.set(0, 1, 998001, 1000000), 1);
        DUE.is("5: 999 steps", x.steps(), 999);
        DUE.is("6: the first", x.step(0), 4);
        DUE.is("6: the second", x.step(1), 3);
        DUE.is("6: the last", x.step(998), 4);
        DUE.is("6: none", x.step(999), PackedBends.NONE);
        for (int i = 0; i < 500; i++) {
            x.turn(3 + i % 2);
        }
        DUE.is("5: 1499 steps", x.steps(), 1499);
        DUE.is("6: the last", x.step(1498), 4);
        DUE.is("3: 1500 squared", x.bend(4), 2250000);
        roots(x, 0, 0, 1, 1);
    }

    private static void strip() {
        PackedBends x = new PackedBends();
        x.set(1, 0, 1, 0);
        roots(x, 0, 0, 1, 1);
        DUE.is("5: strip", x.steps(), 0);
        DUE.is("23: not bound", x.many(3), 0);
        DUE.is("4: a strip's circle over to the next", x.turn(1), 1);
        bends(x, 1, 0, 1, 0);
        x.turn(2);
        bends(x, 1, 4, 1, 0);
        DUE.is("5: one step", x.steps(), 1);
        DUE.is("6: at 2", x.step(0), 2);
    }

    private static void common() {
        PackedBends x = new PackedBends();
        DUE.is("8: 1", x.common(), 1);
        x.set(-2, 4, 4, 6);
        DUE.is("8: 2", x.common(), 2);
        x.set(0, 0, 5, 5);
        DUE.is("8: with 0", x.common(), 5);
        x.set(-36, 60, 90, 114);
        DUE.is("8: below 0", x.common(), 6);
        x.turn(1);
        DUE.is("8: turned", x.common(), 6);
        x.set(0, 0, 1000000, 1000000);
        DUE.is("8: the greatest", x.common(), 1000000);
        x.set(-100000, 200000, 200000, 300000);
        DUE.is("8: 100000", x.common(), 100000);
    }

    private static void bends(PackedBends x, long a, long b, long c, long d) {
        DUE.is("3: bend(1)", x.bend(1), a);
        DUE.is("3: bend(2)", x.bend(2), b);
        DUE.is("3: bend(3)", x.bend(3), c);
        DUE.is("3: bend(4)", x.bend(4), d);
    }

    private static void roots(PackedBends x, long a, long b, long c, long d) {
        DUE.is("7: root(0)", x.root(0), a);
        DUE.is("7: root(1)", x.root(1), b);
        DUE.is("7: root(2)", x.root(2), c);
        DUE.is("7: root(3)", x.root(3), d);
    }
}
