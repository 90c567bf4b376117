/** Promises 18 to 23: keep, back, shelf, lay, seen, many. */
public final class ShelvesTest {
    private static final long LOST = PackedBends.LOST;
    private static final int[] NO_COPIES = {-1, 3, Integer.MIN_VALUE, Integer.MAX_VALUE};
    private static final Due DUE = new Due();

    public static void main(String[] args) {
        keepAndBack();
        keepInPlaceOfWhatItWas();
        backFindsTheRoot();
        shelf();
        shelfRefused();
        sorts();
        layInPlaceOfWhatWas();
        faultsInOrder();
        layKeepsTheBendAsItWas();
        seen();
        many();
        DUE.end();
    }

    private static void keepAndBack() {
        PackedBends x = new PackedBends();
        for (int copy = 0; copy < 3; copy++) {
            DUE.is("19: not kept", x.back(copy), PackedBends.STATE);
        }
        DUE.is("18: keep(0)", x.keep(0), 1);
        x.turn(1);
        DUE.is("18: keep(2)", x.keep(2), 1);
        x.set(0, 0, 1, 1);
        DUE.is("19: back(1)", x.back(1), PackedBends.STATE);
        DUE.is("19: nothing changed", x.bend(1), 0);
        DUE.is("19: back(2)", x.back(2), 1);
        DUE.is("19: as it was then", x.bend(1), 15);
        DUE.is("19: back(0)", x.back(0), 1);
        DUE.is("19: as it was first", x.bend(1), -1);
        DUE.is("19: back(2) again", x.back(2), 1);
        DUE.is("19: still as it was", x.bend(1), 15);
        x.turn(2);
        x.back(2);
        DUE.is("19: a copy does not turn along", x.bend(2), 2);
        for (int copy : NO_COPIES) {
            DUE.is("18: keep(" + copy + ")", x.keep(copy), PackedBends.UNKNOWN);
            DUE.is("19: back(" + copy + ")", x.back(copy), PackedBends.UNKNOWN);
        }
    }

    private static void keepInPlaceOfWhatItWas() {
        PackedBends x = new PackedBends();
        x.keep(1);
        x.set(-2, 3, 6, 7);
        x.keep(1);
        x.set(0, 0, 1, 1);
        x.back(1);
        DUE.is("18: the later one", x.bend(1), -2);
        DUE.is("23: one copy", x.many(1), 1);
    }

    private static void backFindsTheRoot() {
        PackedBends x = new PackedBends();
        x.set(-6, 11, 14, 15);
        x.turn(1);
        x.keep(0);
        x.set(0, 0, 1, 1);
        x.back(0);
        DUE.is("19: root", x.root(0), -6);
        DUE.is("19: steps", x.steps(), 1);
        DUE.is("19: bound", x.many(3), 1);
        DUE.is("19: count", x.upTo(11), 2);
    }

    private static void shelf() {
        PackedBends x = new PackedBends();
        for (int n = 0; n <= 6; n++) {
            DUE.is("20: shelf of " + n, x.shelf(n % 3, n % 4, n), n);
        }
        x.shelf(0, 3, 2);
        x.lay(0, 0, 1);
        x.lay(0, 1, 2);
        DUE.is("23: two laid", x.many(2), 2);
        DUE.is("20: a new one in its place", x.shelf(0, 3, 2), 2);
        DUE.is("20: is empty", x.many(2), 0);
        DUE.is("20: is empty", x.seen(0, 0), LOST);
        DUE.is("20: a shelf of none", x.shelf(0, 3, 0), 0);
        DUE.is("20: takes nothing", x.lay(0, 0, 1), PackedBends.INDEX);
        DUE.is("20: but is there", x.many(0), 3);
    }

    private static void shelfRefused() {
        PackedBends x = new PackedBends();
        for (int t : NO_COPIES) {
            DUE.is("20: no shelf", x.shelf(t, 9, -1), PackedBends.UNKNOWN);
        }
        int[] noSorts = {-1, 4, Integer.MIN_VALUE, Integer.MAX_VALUE};
        for (int sort : noSorts) {
            DUE.is("20: no sort, ahead of SIZE", x.shelf(0, sort, -1), PackedBends.OUTSIDE);
        }
        DUE.is("20: seven", x.shelf(0, 0, 7), PackedBends.OUTSIDE);
        DUE.is("20: MAX", x.shelf(0, 0, Integer.MAX_VALUE), PackedBends.OUTSIDE);
        DUE.is("20: -1", x.shelf(0, 0, -1), PackedBends.SIZE);
        DUE.is("20: MIN", x.shelf(2, 3, Integer.MIN_VALUE), PackedBends.SIZE);
        DUE.is("23: none came", x.many(0), 0);
        x.shelf(1, 3, 1);
        x.lay(1, 0, 4);
        x.shelf(1, 3, -1);
        x.shelf(1, 3, 7);
        x.shelf(1, 4, 1);
        DUE.is("20: the old one stays", x.seen(1, 0), 3);
    }

    private static void sorts() {
        // Bit 0: above 0; bit 1: below 0; bit 2: of 0.
        int[] taken = {1, 2, 4, 7};
        for (int sort = 0; sort < 4; sort++) {
            PackedBends x = new PackedBends();
            x.shelf(0, sort, 1);
            x.set(2, -1, 2, 3);
            DUE.is("21: above 0, sort " + sort, x.lay(0, 0, 1), (taken[sort] & 1) != 0 ? 1 : PackedBends.SORT);
            DUE.is("21: below 0, sort " + sort, x.lay(0, 0, 2), (taken[sort] & 2) != 0 ? 1 : PackedBends.SORT);
            x.set(1, 1, 0, 0);
            DUE.is("21: just above 0, sort " + sort, x.lay(0, 0, 1), (taken[sort] & 1) != 0 ? 1 : PackedBends.SORT);
            DUE.is("21: of 0, sort " + sort, x.lay(0, 0, 3), (taken[sort] & 4) != 0 ? 1 : PackedBends.SORT);
        }
    }

    private static void layInPlaceOfWhatWas() {
        PackedBends x = new PackedBends();
        x.shelf(2, 0, 6);
        DUE.is("21: lay", x.lay(2, 5, 4), 1);
        DUE.is("21: lay over it", x.lay(2, 5, 2), 1);
        DUE.is("22: the later one", x.seen(2, 5), 2);
        DUE.is("23: one circle", x.many(2), 1);
        DUE.is("21: not taken", x.lay(2, 5, 1), PackedBends.SORT);
        DUE.is("22: stays", x.seen(2, 5), 2);
    }

    private static void faultsInOrder() {
        PackedBends x = new PackedBends();
        for (int t : NO_COPIES) {
            DUE.is("21: no shelf", x.lay(t, 0, 1), PackedBends.UNKNOWN);
        }
        int[] noPlaces = {0, 5, Integer.MIN_VALUE, Integer.MAX_VALUE};
        for (int place : noPlaces) {
            DUE.is("21: no place, ahead of MISSING", x.lay(0, -1, place), PackedBends.UNKNOWN);
        }
        DUE.is("21: MISSING ahead of INDEX", x.lay(0, -1, 1), PackedBends.MISSING);
        x.shelf(0, 1, 2);
        DUE.is("21: INDEX ahead of SORT", x.lay(0, 2, 2), PackedBends.INDEX);
        DUE.is("21: INDEX", x.lay(0, -1, 1), PackedBends.INDEX);
        DUE.is("21: INDEX", x.lay(0, Integer.MAX_VALUE, 1), PackedBends.INDEX);
        DUE.is("21: INDEX", x.lay(0, Integer.MIN_VALUE, 1), PackedBends.INDEX);
        DUE.is("21: SORT", x.lay(0, 1, 2), PackedBends.SORT);
        DUE.is("21: taken", x.lay(0, 1, 1), 1);
        DUE.is("21: another shelf is missing", x.lay(1, 1, 1), PackedBends.MISSING);
        DUE.is("23: one circle", x.many(2), 1);
    }

    private static void layKeepsTheBendAsItWas() {
        PackedBends x = new PackedBends();
        x.shelf(0, 1, 1);
        x.lay(0, 0, 1);
        x.turn(1);
        DUE.is("21: as it was", x.seen(0, 0), -1);
        DUE.is("21: as it is now", x.lay(0, 0, 1), PackedBends.SORT);
        x.shelf(1, 2, 1);
        x.set(0, 0, 1, 1);
        x.lay(1, 0, 2);
        DUE.is("22: 0 is something", x.seen(1, 0), 0);
        DUE.is("23: 0 counts", x.many(2), 2);
    }

    private static void seen() {
        PackedBends x = new PackedBends();
        DUE.is("22: missing", x.seen(1, 0), LOST);
        x.shelf(1, 3, 3);
        x.lay(1, 2, 4);
        DUE.is("22: seen", x.seen(1, 2), 3);
        DUE.is("22: nothing there", x.seen(1, 1), LOST);
        int[] noIndexes = {-1, 3, 6, Integer.MIN_VALUE, Integer.MAX_VALUE};
        for (int i : noIndexes) {
            DUE.is("22: seen(1, " + i + ")", x.seen(1, i), LOST);
        }
        for (int t : NO_COPIES) {
            DUE.is("22: seen(" + t + ", 0)", x.seen(t, 0), LOST);
        }
        // A shorter shelf does not show what a longer one had.
        x.shelf(1, 3, 1);
        DUE.is("22: gone", x.seen(1, 2), LOST);
        x.shelf(1, 3, 3);
        DUE.is("22: gone for good", x.seen(1, 2), LOST);
    }

    private static void many() {
        PackedBends x = new PackedBends();
        x.shelf(0, 3, 1);
        DUE.is("23: one shelf", x.many(0), 1);
        x.shelf(0, 3, 4);
        DUE.is("23: still one", x.many(0), 1);
        x.shelf(2, 0, 4);
        DUE.is("23: two", x.many(0), 2);
        x.keep(2);
        x.keep(2);
        DUE.is("23: one copy", x.many(1), 1);
        x.keep(0);
        x.keep(1);
        DUE.is("23: three copies", x.many(1), 3);
        x.lay(0, 0, 1);
        x.lay(0, 3, 1);
        x.lay(2, 1, 2);
        DUE.is("23: three circles", x.many(2), 3);
        DUE.is("23: bound", x.many(3), 1);
        x.set(5, 0, 5, 0);
        DUE.is("23: not bound", x.many(3), 0);
        x.set(-1, 2, 2, 3);
        x.turn(1);
        DUE.is("23: bound though no bend is below 0", x.many(3), 1);
        int[] wrong = {-1, 4, Integer.MIN_VALUE, Integer.MAX_VALUE};
        for (int what : wrong) {
            DUE.is("23: many(" + what + ")", x.many(what), PackedBends.OUTSIDE);
        }
    }
}
