/** The edges of promises 18 to 23, a method for each sentence of the document that names one. */
public final class ShelfEdgesTest {
    private static final int UNKNOWN = PackedBends.UNKNOWN;
    private static final int OUTSIDE = PackedBends.OUTSIDE;
    private static final int STATE = PackedBends.STATE;
    private static final int MISSING = PackedBends.MISSING;
    private static final int INDEX = PackedBends.INDEX;
    private static final int SIZE = PackedBends.SIZE;
    private static final int SORT = PackedBends.SORT;
    private static final long LOST = PackedBends.LOST;
    private static final int MIN = Integer.MIN_VALUE;
    private static final int MAX = Integer.MAX_VALUE;
    private static final int[] NO_COPIES = {-1, 3, MIN, MAX};
    private static final int[] NO_PLACES = {0, 5, -1, MIN, MAX};
    private static final Due DUE = new Due();

    public static void main(String[] args) {
        copiesFromFirstToLast();
        copiesFromNoneToAll();
        copyOfTheLeastAndTheGreatest();
        stateUntilKept();
        shelvesFromFirstToLast();
        sizesFromNoneToSix();
        sortsFromFirstToLast();
        refusalsOfShelfInOrder();
        refusedShelfStaysAsItWas();
        emptyAtFirst();
        sortsByTheSign();
        sortAllTakesAll();
        indexesOfEachSize();
        faultsInOrder();
        fullShelvesTakeInPlace();
        layTakesTheBendAsItIsNow();
        greatestBendLaid();
        nothingSeen();
        manyFromFirstToLast();
        manyFromNoneToAll();
        DUE.end();
    }

    /** 'COPIES 0 .. 2', promises 18 and 19: 'UNKNOWN'. */
    private static void copiesFromFirstToLast() {
        PackedBends x = new PackedBends();
        DUE.is("18: keep(0)", x.keep(0), 1);
        DUE.is("18: keep(2)", x.keep(2), 1);
        DUE.is("19: back(0)", x.back(0), 1);
        DUE.is("19: back(2)", x.back(2), 1);
        for (int copy : NO_COPIES) {
            DUE.is("18: keep(" + copy + ")", x.keep(copy), UNKNOWN);
            DUE.is("19: back(" + copy + ")", x.back(copy), UNKNOWN);
        }
        DUE.is("23: two are kept", x.many(1), 2);
    }

    /** '(there is none at first)'; and all three at once, each its own. */
    private static void copiesFromNoneToAll() {
        PackedBends x = new PackedBends();
        DUE.is("23: none", x.many(1), 0);
        for (int copy = 0; copy < 3; copy++) {
            x.set(-copy - 1, 2 * copy + 2, 2 * copy + 2, 3 * copy + 3);
            DUE.is("18: keep(" + copy + ")", x.keep(copy), 1);
            DUE.is("23: one more", x.many(1), copy + 1);
        }
        DUE.is("18: all are kept, one anew", x.keep(1), 1);
        DUE.is("23: still three", x.many(1), 3);
        int[] first = {-1, -3, -3};
        for (int copy = 0; copy < 3; copy++) {
            DUE.is("19: back(" + copy + ")", x.back(copy), 1);
            DUE.is("19: each its own", x.bend(1), first[copy]);
        }
        DUE.is("23: back takes none away", x.many(1), 3);
    }

    /** A copy may be of bends that set does not take. */
    private static void copyOfTheLeastAndTheGreatest() {
        PackedBends x = new PackedBends();
        x.set(0, 0, 625000, 625000);
        for (int n = 2; n <= 40; n++) {
            x.turn(n % 2 == 0 ? 1 : 3);
        }
        x.keep(0);
        x.set(-100000, 200000, 200000, 300000);
        x.keep(1);
        DUE.is("19: back(0)", x.back(0), 1);
        DUE.is("19: the greatest", x.bend(1), 1000000000);
        DUE.is("19: its steps", x.steps(), 39);
        DUE.is("19: back(1)", x.back(1), 1);
        DUE.is("19: the least", x.bend(1), -100000);
        DUE.is("19: its steps", x.steps(), 0);
    }

    /** Promise 19: 'STATE: it was not kept', whatever else was. */
    private static void stateUntilKept() {
        for (int copy = 0; copy < 3; copy++) {
            PackedBends x = new PackedBends();
            x.keep((copy + 1) % 3);
            x.keep((copy + 2) % 3);
            x.turn(1);
            DUE.is("19: not kept", x.back(copy), STATE);
            DUE.is("19: nothing changed", x.bend(1), 15);
            x.keep(copy);
            DUE.is("19: kept", x.back(copy), 1);
            DUE.is("19: UNKNOWN ahead of STATE", x.back(3), UNKNOWN);
        }
    }

    /** 'SHELVES 0 .. 2 are not there at first', promises 20 to 22: 'UNKNOWN'. */
    private static void shelvesFromFirstToLast() {
        PackedBends x = new PackedBends();
        DUE.is("23: none", x.many(0), 0);
        DUE.is("20: the first", x.shelf(0, 3, 1), 1);
        DUE.is("21: the last is missing", x.lay(2, 0, 1), MISSING);
        DUE.is("20: the last", x.shelf(2, 3, 1), 1);
        DUE.is("21: the first", x.lay(0, 0, 1), 1);
        DUE.is("21: the last", x.lay(2, 0, 4), 1);
        DUE.is("22: the first", x.seen(0, 0), -1);
        DUE.is("22: the last", x.seen(2, 0), 3);
        DUE.is("21: the one between is missing", x.lay(1, 0, 1), MISSING);
        for (int t : NO_COPIES) {
            DUE.is("20: shelf(" + t + ", 3, 1)", x.shelf(t, 3, 1), UNKNOWN);
            DUE.is("21: lay(" + t + ", 0, 1)", x.lay(t, 0, 1), UNKNOWN);
            DUE.is("22: seen(" + t + ", 0)", x.seen(t, 0), LOST);
        }
        DUE.is("23: two", x.many(0), 2);
    }

    /** 'one that is has 0 to 6 places'; 'OUTSIDE: .. n above 6'; 'SIZE (-14): a SHELF of less than 0 places'. */
    private static void sizesFromNoneToSix() {
        PackedBends x = new PackedBends();
        DUE.is("20: 7 places", x.shelf(0, 3, 7), OUTSIDE);
        DUE.is("20: MAX places", x.shelf(0, 3, MAX), OUTSIDE);
        DUE.is("20: -1 places", x.shelf(0, 3, -1), SIZE);
        DUE.is("20: MIN places", x.shelf(0, 3, MIN), SIZE);
        DUE.is("23: none came", x.many(0), 0);
        DUE.is("20: 0 places", x.shelf(0, 3, 0), 0);
        DUE.is("23: one of 0 places is there", x.many(0), 1);
        DUE.is("20: 6 places", x.shelf(0, 3, 6), 6);
        DUE.is("SIZE", SIZE, -14);
    }

    /** Promise 20: 'OUTSIDE: sort (0 .. 3)'. */
    private static void sortsFromFirstToLast() {
        PackedBends x = new PackedBends();
        DUE.is("20: sort -1", x.shelf(1, -1, 1), OUTSIDE);
        DUE.is("20: sort 4", x.shelf(1, 4, 1), OUTSIDE);
        DUE.is("20: sort MIN", x.shelf(1, MIN, 1), OUTSIDE);
        DUE.is("20: sort MAX", x.shelf(1, MAX, 1), OUTSIDE);
        DUE.is("23: none came", x.many(0), 0);
        DUE.is("20: sort 0", x.shelf(1, 0, 1), 1);
        DUE.is("20: sort 3", x.shelf(1, 3, 1), 1);
    }

    /** Promise 20: 'UNKNOWN; OUTSIDE ..; SIZE', the first that fits. */
    private static void refusalsOfShelfInOrder() {
        PackedBends x = new PackedBends();
        for (int t : NO_COPIES) {
            DUE.is("20: all three", x.shelf(t, 4, -1), UNKNOWN);
            DUE.is("20: UNKNOWN ahead of OUTSIDE", x.shelf(t, 0, 7), UNKNOWN);
            DUE.is("20: UNKNOWN ahead of SIZE", x.shelf(t, 0, -1), UNKNOWN);
        }
        DUE.is("20: OUTSIDE ahead of SIZE", x.shelf(0, 4, -1), OUTSIDE);
        DUE.is("20: OUTSIDE ahead of SIZE", x.shelf(0, -1, MIN), OUTSIDE);
    }

    /** 'they change nothing': neither sort, nor places, nor what lies there. */
    private static void refusedShelfStaysAsItWas() {
        int[][] refused = {{3, 7}, {3, -1}, {4, 3}, {-1, 3}, {3, MIN}, {3, MAX}};
        for (int[] r : refused) {
            PackedBends x = new PackedBends();
            x.shelf(0, 0, 2);
            x.lay(0, 1, 4);
            DUE.isTrue("20: refused", x.shelf(0, r[0], r[1]) < 0);
            DUE.is("20: what lies there", x.seen(0, 1), 3);
            DUE.is("20: its sort", x.lay(0, 0, 1), SORT);
            DUE.is("20: its places", x.lay(0, 1, 2), 1);
            DUE.is("20: its places", x.lay(0, 2, 2), INDEX);
        }
    }

    /** 'and is empty at first', promise 20: 'A SHELF comes, in place of what was'. */
    private static void emptyAtFirst() {
        PackedBends x = new PackedBends();
        x.shelf(0, 3, 6);
        x.shelf(1, 3, 6);
        for (int i = 0; i < 6; i++) {
            DUE.is("22: empty", x.seen(0, i), LOST);
            x.lay(0, i, 2);
            x.lay(1, i, 4);
        }
        DUE.is("23: both full", x.many(2), 12);
        DUE.is("20: in place of what was", x.shelf(0, 0, 6), 6);
        for (int i = 0; i < 6; i++) {
            DUE.is("22: empty again", x.seen(0, i), LOST);
            DUE.is("22: the other stays", x.seen(1, i), 3);
        }
        DUE.is("23: one full", x.many(2), 6);
        DUE.is("20: of the new sort", x.lay(0, 0, 1), SORT);
        DUE.is("20: none", x.shelf(1, 3, 0), 0);
        DUE.is("23: none", x.many(2), 0);
        DUE.is("23: two are there", x.many(0), 2);
    }

    /** '0 for circles with a BEND above 0, 1 for those below 0, 2 for those of 0': by -1, 0 and 1. */
    private static void sortsByTheSign() {
        for (int sort = 0; sort < 3; sort++) {
            PackedBends x = new PackedBends();
            x.shelf(0, sort, 1);
            DUE.is("21: -1, sort " + sort, x.lay(0, 0, 1), sort == 1 ? 1 : SORT);
            x.set(0, 1, 1, 0);
            DUE.is("21: 0, sort " + sort, x.lay(0, 0, 1), sort == 2 ? 1 : SORT);
            DUE.is("21: 1, sort " + sort, x.lay(0, 0, 2), sort == 0 ? 1 : SORT);
            DUE.is("22: what it took, sort " + sort, x.seen(0, 0), sort == 0 ? 1 : sort == 1 ? -1 : 0);
            DUE.is("23: once, sort " + sort, x.many(2), 1);
        }
    }

    /** '3 for all' */
    private static void sortAllTakesAll() {
        PackedBends x = new PackedBends();
        x.shelf(0, 3, 3);
        DUE.is("21: -1", x.lay(0, 0, 1), 1);
        x.set(0, 1, 1, 0);
        DUE.is("21: 0", x.lay(0, 1, 1), 1);
        DUE.is("21: 1", x.lay(0, 2, 2), 1);
        for (int i = 0; i < 3; i++) {
            DUE.is("22: seen(0, " + i + ")", x.seen(0, i), i - 1);
        }
    }

    /** 'INDEX (-13: no such place)': from 0 up to one below how many there are. */
    private static void indexesOfEachSize() {
        for (int n = 0; n <= 6; n++) {
            PackedBends x = new PackedBends();
            x.shelf(2, 3, n);
            for (int i = -2; i <= 8; i++) {
                boolean holds = i >= 0 && i < n;
                DUE.is("21: " + n + " places, lay at " + i, x.lay(2, i, 2), holds ? 1 : INDEX);
                DUE.is("22: " + n + " places, seen at " + i, x.seen(2, i), holds ? 2 : LOST);
            }
            DUE.is("21: MIN", x.lay(2, MIN, 2), INDEX);
            DUE.is("21: MAX", x.lay(2, MAX, 2), INDEX);
            DUE.is("22: MIN", x.seen(2, MIN), LOST);
            DUE.is("22: MAX", x.seen(2, MAX), LOST);
            DUE.is("23: all " + n, x.many(2), n);
        }
    }

    /** Promise 21: 'UNKNOWN: SHELF, PLACE; FAULTS'; 'FAULTS, in this order: MISSING .., INDEX .., SORT'. */
    private static void faultsInOrder() {
        PackedBends x = new PackedBends();
        x.shelf(1, 1, 2);
        for (int place : NO_PLACES) {
            DUE.is("21: UNKNOWN ahead of MISSING", x.lay(0, 0, place), UNKNOWN);
            DUE.is("21: UNKNOWN ahead of INDEX", x.lay(1, 2, place), UNKNOWN);
            DUE.is("21: no PLACE", x.lay(1, 0, place), UNKNOWN);
            DUE.is("21: no SHELF, no PLACE", x.lay(3, 0, place), UNKNOWN);
        }
        DUE.is("21: MISSING alone", x.lay(0, 0, 1), MISSING);
        DUE.is("21: MISSING ahead of INDEX", x.lay(0, -1, 1), MISSING);
        DUE.is("21: INDEX alone, below", x.lay(1, -1, 1), INDEX);
        DUE.is("21: INDEX alone, above", x.lay(1, 2, 1), INDEX);
        DUE.is("21: INDEX ahead of SORT, below", x.lay(1, -1, 2), INDEX);
        DUE.is("21: INDEX ahead of SORT, above", x.lay(1, 2, 2), INDEX);
        DUE.is("21: SORT alone", x.lay(1, 1, 2), SORT);
        DUE.is("23: none was laid", x.many(2), 0);
        DUE.is("23: none came", x.many(0), 1);
        DUE.is("21: no fault", x.lay(1, 1, 1), 1);
    }

    /** All three shelves full: what is laid takes the place of what was, and a refused one does not. */
    private static void fullShelvesTakeInPlace() {
        PackedBends x = new PackedBends();
        for (int t = 0; t < 3; t++) {
            x.shelf(t, 0, 6);
            for (int i = 0; i < 6; i++) {
                DUE.is("23: one more", x.many(2), 6 * t + i);
                DUE.is("21: lay", x.lay(t, i, 2), 1);
            }
        }
        DUE.is("23: full", x.many(2), 18);
        DUE.is("21: in place", x.lay(1, 5, 4), 1);
        DUE.is("22: the later one", x.seen(1, 5), 3);
        DUE.is("22: its neighbour", x.seen(1, 4), 2);
        DUE.is("22: another shelf's", x.seen(2, 5), 2);
        DUE.is("21: not taken", x.lay(1, 5, 1), SORT);
        DUE.is("22: stays", x.seen(1, 5), 3);
        DUE.is("21: a seventh", x.lay(1, 6, 2), INDEX);
        DUE.is("23: still full", x.many(2), 18);
    }

    /** Promise 21: '(its BEND as it is now)': not as it will be, and not as it was. */
    private static void layTakesTheBendAsItIsNow() {
        PackedBends x = new PackedBends();
        x.shelf(0, 1, 1);
        x.shelf(1, 0, 1);
        DUE.is("21: below 0", x.lay(0, 0, 1), 1);
        x.turn(1);
        DUE.is("21: no longer below 0", x.lay(0, 0, 1), SORT);
        DUE.is("22: stays as it was", x.seen(0, 0), -1);
        DUE.is("21: above 0", x.lay(1, 0, 1), 1);
        x.turn(1);
        DUE.is("21: no longer above 0", x.lay(1, 0, 1), SORT);
        DUE.is("22: stays as it was", x.seen(1, 0), 15);
        x.set(0, 0, 1, 1);
        DUE.is("22: whatever is set", x.seen(0, 0), -1);
    }

    private static void greatestBendLaid() {
        PackedBends x = new PackedBends();
        x.shelf(0, 3, 2);
        x.set(-100000, 200000, 200000, 300000);
        x.lay(0, 0, 1);
        x.set(0, 0, 625000, 625000);
        for (int n = 2; n <= 40; n++) {
            x.turn(n % 2 == 0 ? 1 : 3);
        }
        x.lay(0, 1, 1);
        DUE.is("22: the least", x.seen(0, 0), -100000);
        DUE.is("22: the greatest", x.seen(0, 1), 1000000000);
    }

    /** Promise 22: 'LOST: UNKNOWN: SHELF; MISSING, INDEX (both so), there is nothing.' */
    private static void nothingSeen() {
        PackedBends x = new PackedBends();
        DUE.is("22: UNKNOWN, below", x.seen(-1, 0), LOST);
        DUE.is("22: UNKNOWN, above", x.seen(3, 0), LOST);
        DUE.is("22: MISSING", x.seen(0, 0), LOST);
        x.shelf(0, 3, 2);
        DUE.is("22: INDEX, below", x.seen(0, -1), LOST);
        DUE.is("22: INDEX, above", x.seen(0, 2), LOST);
        DUE.is("22: there is nothing", x.seen(0, 0), LOST);
        x.set(0, 0, 1, 1);
        x.lay(0, 1, 1);
        DUE.is("22: 0 is something", x.seen(0, 1), 0);
        DUE.is("22: there is nothing yet", x.seen(0, 0), LOST);
        x.shelf(0, 3, 1);
        x.shelf(0, 3, 2);
        DUE.is("22: gone with the shelf that was", x.seen(0, 1), LOST);
    }

    /** Promise 23: '0 SHELVES, 1 COPIES, 2 circles on all SHELVES, 3 whether ..', 'OUTSIDE'. */
    private static void manyFromFirstToLast() {
        PackedBends x = new PackedBends();
        DUE.is("23: many(0)", x.many(0), 0);
        DUE.is("23: many(3)", x.many(3), 1);
        DUE.is("23: many(-1)", x.many(-1), OUTSIDE);
        DUE.is("23: many(4)", x.many(4), OUTSIDE);
        DUE.is("23: many(MIN)", x.many(MIN), OUTSIDE);
        DUE.is("23: many(MAX)", x.many(MAX), OUTSIDE);
    }

    private static void manyFromNoneToAll() {
        PackedBends x = new PackedBends();
        for (int i = 0; i < 3; i++) {
            DUE.is("23: shelves", x.many(0), i);
            DUE.is("23: copies", x.many(1), i);
            DUE.is("23: circles", x.many(2), i);
            x.shelf(2 - i, 3, 1);
            x.keep(2 - i);
            x.lay(2 - i, 0, 1 + i);
        }
        DUE.is("23: all shelves", x.many(0), 3);
        DUE.is("23: all copies", x.many(1), 3);
        DUE.is("23: circles", x.many(2), 3);
        x.shelf(1, 3, 1);
        DUE.is("23: all shelves still", x.many(0), 3);
        DUE.is("23: a circle less", x.many(2), 2);
    }
}
