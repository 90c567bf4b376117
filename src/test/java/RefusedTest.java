import java.util.ArrayList;
import java.util.List;

/**
 * REFUSALS and FAULTS: the first that fits is answered, in the order told, and they change nothing.
 * Each refused call is made on objects with several pasts, and all that calls can tell is then compared with
 * what a twin tells to which the call was not made.
 */
public final class RefusedTest {
    private static final int UNKNOWN = PackedBends.UNKNOWN;
    private static final int OUTSIDE = PackedBends.OUTSIDE;
    private static final int STATE = PackedBends.STATE;
    private static final long LOST = PackedBends.LOST;
    private static final int MIN = Integer.MIN_VALUE;
    private static final int MAX = Integer.MAX_VALUE;
    private static final Due DUE = new Due();

    private interface Ask {
        long of(PackedBends x);
    }

    private interface Past {
        PackedBends make();
    }

    private record Row(String call, Ask ask, long due) { }

    private static final List<Row> ROWS = new ArrayList<>();

    public static void main(String[] args) {
        Past[] pasts = {PackedBends::new, RefusedTest::full, RefusedTest::notBound, RefusedTest::nearlyOver};
        refusedAlways();
        for (Past past : pasts) {
            tryOut(past);
        }
        DUE.isTrue("many calls were refused", ROWS.size() > 200);

        ROWS.clear();
        refusedByANewOne();
        tryOut(PackedBends::new);

        ROWS.clear();
        refusedByAFullOne();
        tryOut(RefusedTest::full);

        ROWS.clear();
        refusedByOneNotBound();
        tryOut(RefusedTest::notBound);

        ROWS.clear();
        refusedNearlyOver();
        tryOut(RefusedTest::nearlyOver);

        askingChangesNothing(pasts);
        DUE.end();
    }

    private static void tryOut(Past past) {
        List<String> untouched = Picture.of(past.make());
        for (Row row : ROWS) {
            PackedBends x = past.make();
            DUE.is(row.call, row.ask.of(x), row.due);
            same(row.call + " changes nothing", Picture.of(x), untouched);
        }
    }

    private static void same(String what, List<String> got, List<String> want) {
        int different = 0;
        for (int i = 0; i < want.size(); i++) {
            if (!got.get(i).equals(want.get(i))) {
                different++;
                System.out.println(what + ": " + got.get(i) + ", without it " + want.get(i));
            }
        }
        DUE.is(what, different, 0);
    }

    // ---- pasts

    /** All copies, all shelves, one shelf full, one of no places; what can be found out was asked for already. */
    private static PackedBends full() {
        PackedBends x = new PackedBends();
        x.shelf(0, 0, 6);
        x.shelf(1, 1, 2);
        x.shelf(2, 3, 0);
        for (int i = 0; i < 6; i++) {
            x.lay(0, i, 2 + i % 3);
        }
        x.lay(1, 1, 1);
        x.keep(0);
        x.set(14, -6, 15, 11);
        x.keep(1);
        x.turn(2);
        x.turn(1);
        x.turn(4);
        x.keep(2);
        x.upTo(500);
        x.least(100);
        x.remainders(12);
        x.step(1);
        return x;
    }

    private static PackedBends notBound() {
        PackedBends x = new PackedBends();
        x.set(0, 3, 3, 0);
        x.shelf(2, 2, 1);
        x.lay(2, 0, 4);
        x.turn(1);
        x.keep(1);
        x.turn(2);
        return x;
    }

    /** One turn leads down; all others would lead above 1000000000. */
    private static PackedBends nearlyOver() {
        PackedBends x = new PackedBends();
        x.set(0, 0, 1000000, 1000000);
        int[] row = {1, 2, 3, 4, 1, 2};
        for (int place : row) {
            x.turn(place);
        }
        return x;
    }

    // ---- what is refused

    private static void add(String call, Ask ask, long due) {
        ROWS.add(new Row(call, ask, due));
    }

    private static void refusedAlways() {
        set();
        places();
        numbers();
        words();
        copiesAndShelves();
    }

    private static void set() {
        int[] outside = {-100001, 1000001, MIN, MAX};
        for (int w : outside) {
            add("2: OUTSIDE: set(" + w + ", 2, 2, 3)", x -> x.set(w, 2, 2, 3), OUTSIDE);
            add("2: OUTSIDE: set(-1, " + w + ", 2, 3)", x -> x.set(-1, w, 2, 3), OUTSIDE);
            add("2: OUTSIDE: set(-1, 2, " + w + ", 3)", x -> x.set(-1, 2, w, 3), OUTSIDE);
            add("2: OUTSIDE: set(-1, 2, 2, " + w + ")", x -> x.set(-1, 2, 2, w), OUTSIDE);
            add("2: all OUTSIDE: " + w, x -> x.set(w, w, w, w), OUTSIDE);
        }
        add("2: GOOD, but OUTSIDE", x -> x.set(-100001, 200002, 200002, 300003), OUTSIDE);
        add("2: GOOD, but OUTSIDE", x -> x.set(0, 1000001, 0, 1000001), OUTSIDE);
        int[][] notGood = {
            {0, 0, 0, 0}, {1, 1, 1, 1}, {-1, 2, 2, 4}, {1, -2, -2, -3}, {0, 0, -1, -1},
            {1000000, 1000000, 1000000, 1000000}, {-100000, -100000, -100000, -100000}};
        for (int[] q : notGood) {
            add("2: STATE: set of " + q[0] + " .. " + q[3], x -> x.set(q[0], q[1], q[2], q[3]), STATE);
        }
    }

    private static void places() {
        int[] noPlaces = {0, 5, -1, MIN, MAX};
        for (int w : noPlaces) {
            add("3: bend(" + w + ")", x -> x.bend(w), LOST);
            add("4: turn(" + w + ")", x -> x.turn(w), UNKNOWN);
            add("14: bendOf(1, " + w + ")", x -> x.bendOf(1, w), LOST);
            add("15: times(1, " + w + ", 0)", x -> x.times(1, w, 0), LOST);
            add("16: product(1, " + w + ", 2, 1)", x -> x.product(1, w, 2, 1), LOST);
            add("16: product(1, 1, 2, " + w + ")", x -> x.product(1, 1, 2, w), LOST);
            add("17: touching(1, 2, " + w + ")", x -> x.touching(1, 2, w), UNKNOWN);
            add("17: UNKNOWN ahead of OUTSIDE: touching(11, 2, " + w + ")", x -> x.touching(11, 2, w), UNKNOWN);
            add("17: UNKNOWN ahead of OUTSIDE: touching(1, -1, " + w + ")", x -> x.touching(1, -1, w), UNKNOWN);
            add("21: lay(0, 0, " + w + ")", x -> x.lay(0, 0, w), UNKNOWN);
            add("21: UNKNOWN ahead of INDEX: lay(0, -1, " + w + ")", x -> x.lay(0, -1, w), UNKNOWN);
        }
    }

    private static void numbers() {
        int[] noBends = {-100001, 5001, MIN, MAX};
        for (int w : noBends) {
            add("9: upTo(" + w + ")", x -> x.upTo(w), OUTSIDE);
            add("10: just(" + w + ")", x -> x.just(w), OUTSIDE);
        }
        int[] noTurns = {-1, 2001, MIN, MAX};
        for (int w : noTurns) {
            add("11: least(" + w + ")", x -> x.least(w), LOST);
        }
        int[] noDivisors = {1, 13, 0, -1, -2, MIN, MAX};
        for (int w : noDivisors) {
            add("12: remainders(" + w + ")", x -> x.remainders(w), OUTSIDE);
        }
        int[] noEnds = {0, 5001, -1, MIN, MAX};
        for (int w : noEnds) {
            add("13: gap(" + w + ", -1)", x -> x.gap(w, -1), OUTSIDE);
            add("13: gap(" + w + ", 0)", x -> x.gap(w, 0), OUTSIDE);
        }
        int[] noGaps = {-2, 5001, MIN, MAX};
        for (int w : noGaps) {
            add("13: gap(5, " + w + ")", x -> x.gap(5, w), OUTSIDE);
        }
        int[] noQuarters = {-1, 4, MIN, MAX};
        for (int w : noQuarters) {
            add("7: root(" + w + ")", x -> x.root(w), LOST);
            add("15: times(1, 1, " + w + ")", x -> x.times(1, 1, w), LOST);
            add("23: many(" + w + ")", x -> x.many(w), OUTSIDE);
        }
        add("6: step(-1)", x -> x.step(-1), OUTSIDE);
        add("6: step(MIN)", x -> x.step(MIN), OUTSIDE);
    }

    private static void words() {
        int[] noWords = {-1, 5, 10, 11, 1212121212, MIN, MAX};
        for (int w : noWords) {
            add("14: bendOf(" + w + ", 1)", x -> x.bendOf(w, 1), LOST);
            add("15: times(" + w + ", 1, 0)", x -> x.times(w, 1, 0), LOST);
            add("16: product(" + w + ", 1, 2, 1)", x -> x.product(w, 1, 2, 1), LOST);
            add("16: product(2, 1, " + w + ", 1)", x -> x.product(2, 1, w, 1), LOST);
            add("17: touching(" + w + ", 2, 1)", x -> x.touching(w, 2, 1), OUTSIDE);
            add("17: touching(2, " + w + ", 1)", x -> x.touching(2, w, 1), OUTSIDE);
        }
    }

    private static void copiesAndShelves() {
        int[] none = {-1, 3, MIN, MAX};
        for (int w : none) {
            add("18: keep(" + w + ")", x -> x.keep(w), UNKNOWN);
            add("19: back(" + w + ")", x -> x.back(w), UNKNOWN);
            add("20: shelf(" + w + ", 0, 1)", x -> x.shelf(w, 0, 1), UNKNOWN);
            add("20: UNKNOWN ahead of OUTSIDE: shelf(" + w + ", 4, 7)", x -> x.shelf(w, 4, 7), UNKNOWN);
            add("20: UNKNOWN ahead of SIZE: shelf(" + w + ", 0, -1)", x -> x.shelf(w, 0, -1), UNKNOWN);
            add("21: lay(" + w + ", 0, 1)", x -> x.lay(w, 0, 1), UNKNOWN);
            add("21: UNKNOWN ahead of INDEX: lay(" + w + ", -1, 1)", x -> x.lay(w, -1, 1), UNKNOWN);
            add("21: neither SHELF nor PLACE: lay(" + w + ", 0, 0)", x -> x.lay(w, 0, 0), UNKNOWN);
            add("22: seen(" + w + ", 0)", x -> x.seen(w, 0), LOST);
        }
        int[] noSorts = {-1, 4, MIN, MAX};
        for (int w : noSorts) {
            add("20: shelf(0, " + w + ", 1)", x -> x.shelf(0, w, 1), OUTSIDE);
            add("20: OUTSIDE ahead of SIZE: shelf(0, " + w + ", -1)", x -> x.shelf(0, w, -1), OUTSIDE);
        }
        for (int t = 0; t < 3; t++) {
            int at = t;
            add("20: shelf(" + t + ", 3, 7)", x -> x.shelf(at, 3, 7), OUTSIDE);
            add("20: shelf(" + t + ", 3, MAX)", x -> x.shelf(at, 3, MAX), OUTSIDE);
            add("20: shelf(" + t + ", 3, -1)", x -> x.shelf(at, 3, -1), PackedBends.SIZE);
            add("20: shelf(" + t + ", 3, MIN)", x -> x.shelf(at, 3, MIN), PackedBends.SIZE);
        }
    }

    private static void refusedByANewOne() {
        for (int i = 0; i < 3; i++) {
            int at = i;
            add("19: STATE: back(" + i + ")", x -> x.back(at), STATE);
            add("21: MISSING: lay(" + i + ", 0, 1)", x -> x.lay(at, 0, 1), PackedBends.MISSING);
            add("21: MISSING ahead of INDEX: lay(" + i + ", -1, 1)", x -> x.lay(at, -1, 1), PackedBends.MISSING);
            add("21: MISSING ahead of INDEX: lay(" + i + ", 6, 4)", x -> x.lay(at, 6, 4), PackedBends.MISSING);
            add("22: MISSING: seen(" + i + ", 0)", x -> x.seen(at, 0), LOST);
            add("22: MISSING: seen(" + i + ", -1)", x -> x.seen(at, -1), LOST);
        }
        add("6: there are fewer: step(0)", x -> x.step(0), PackedBends.NONE);
        add("13: there are fewer: gap(77, 0)", x -> x.gap(77, 0), PackedBends.NONE);
    }

    private static void refusedByAFullOne() {
        int[] noIndexes = {-1, 6, MIN, MAX};
        for (int w : noIndexes) {
            add("21: INDEX: lay(0, " + w + ", 1)", x -> x.lay(0, w, 1), PackedBends.INDEX);
            add("21: INDEX ahead of SORT: lay(1, " + w + ", 1)", x -> x.lay(1, w, 1), PackedBends.INDEX);
            add("22: INDEX: seen(0, " + w + ")", x -> x.seen(0, w), LOST);
        }
        add("21: INDEX ahead of SORT: lay(1, 2, 1)", x -> x.lay(1, 2, 1), PackedBends.INDEX);
        add("21: INDEX of no places: lay(2, 0, 1)", x -> x.lay(2, 0, 1), PackedBends.INDEX);
        add("21: SORT, where nothing is: lay(1, 0, 1)", x -> x.lay(1, 0, 1), PackedBends.SORT);
        add("21: SORT, where a circle is: lay(1, 1, 1)", x -> x.lay(1, 1, 1), PackedBends.SORT);
        add("22: there is nothing: seen(1, 0)", x -> x.seen(1, 0), LOST);
        add("22: INDEX of no places: seen(2, 0)", x -> x.seen(2, 0), LOST);
        add("6: there are fewer: step(3)", x -> x.step(3), PackedBends.NONE);
    }

    private static void refusedByOneNotBound() {
        add("9: STATE: upTo(5)", x -> x.upTo(5), STATE);
        add("9: STATE: upTo(-100000)", x -> x.upTo(-100000), STATE);
        add("9: STATE: upTo(5000)", x -> x.upTo(5000), STATE);
        add("10: STATE: just(0)", x -> x.just(0), STATE);
        add("10: STATE: just(-100000)", x -> x.just(-100000), STATE);
        add("10: STATE: just(5000)", x -> x.just(5000), STATE);
        add("11: STATE: least(0)", x -> x.least(0), LOST);
        add("11: STATE: least(2000)", x -> x.least(2000), LOST);
        add("13: STATE: gap(1, -1)", x -> x.gap(1, -1), STATE);
        add("13: STATE: gap(5000, 5000)", x -> x.gap(5000, 5000), STATE);
        add("19: STATE: back(0)", x -> x.back(0), STATE);
        add("19: STATE: back(2)", x -> x.back(2), STATE);
        add("21: SORT: lay(2, 0, 1)", x -> x.lay(2, 0, 1), PackedBends.SORT);
    }

    private static void refusedNearlyOver() {
        add("4: OVER: turn(1)", x -> x.turn(1), PackedBends.OVER);
        add("4: OVER: turn(3)", x -> x.turn(3), PackedBends.OVER);
        add("4: OVER: turn(4)", x -> x.turn(4), PackedBends.OVER);
    }

    // ---- what is answered

    /** A call that only asks changes nothing either. */
    private static void askingChangesNothing(Past[] pasts) {
        Ask[] asks = {
            x -> x.bend(1), x -> x.steps(), x -> x.step(0), x -> x.step(2), x -> x.root(3), x -> x.common(),
            x -> x.upTo(-7), x -> x.upTo(0), x -> x.upTo(5000), x -> x.just(-6), x -> x.just(5000), x -> x.least(0), x -> x.least(2000),
            x -> x.remainders(2), x -> x.remainders(11), x -> x.remainders(12), x -> x.gap(1, 0), x -> x.gap(5000, -1), x -> x.gap(5000, 3),
            x -> x.bendOf(0, 1), x -> x.bendOf(121212121, 1), x -> x.times(434343434, 4, 3), x -> x.product(12, 1, 34, 4),
            x -> x.touching(1, 2, 3), x -> x.seen(0, 0), x -> x.many(0), x -> x.many(1), x -> x.many(2), x -> x.many(3)};
        for (Past past : pasts) {
            List<String> untouched = Picture.of(past.make());
            for (int i = 0; i < asks.length; i++) {
                PackedBends x = past.make();
                asks[i].of(x);
                same("asking (" + i + ") changes nothing", Picture.of(x), untouched);
            }
        }
    }
}
