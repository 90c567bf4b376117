/**
 * Four circles that all touch, told by their whole bends, and the packing that grows out of them.
 * The numbered promises of DOC.md say what every call answers.
 */
public final class PackedBends {
    public static final int UNKNOWN = -1, OUTSIDE = -2, STATE = -3, OVER = -5, NONE = -9, MISSING = -11, INDEX = -13, SIZE = -14, SORT = -15;
    public static final long LOST = Long.MIN_VALUE;

    private static final int PLACES = 4;
    private static final int COPIES = 3;
    private static final int SHELVES = 3;
    private static final int MOST_ON_SHELF = 6;
    private static final int LEAST_GIVEN = -100000;
    private static final int MOST_GIVEN = 1000000;
    private static final long MOST_BEND = 1000000000L;
    private static final int LEAST_ASKED = -100000;
    private static final int MOST_ASKED = 5000;
    private static final int MOST_LEAST = 2000;
    private static final int LEAST_DIVISOR = 2;
    private static final int MOST_DIVISOR = 12;
    private static final int GAP_DIVISOR = 12;

    // Far above what any run can need: a descent of 512 calls takes some 1500 steps,
    // the fullest packing has some 28000 circles with a bend of 5000 at most.
    private static final int ENDLESS = 1000000;

    private final long[] now = {-1, 2, 2, 3};
    private final Descent descent = new Descent();
    private final Packing packing = new Packing();
    private final Sums sums = new Sums();
    private final Sums otherSums = new Sums();
    private final long[][] copies = new long[COPIES][PLACES];
    private final boolean[] kept = new boolean[COPIES];
    private final Shelf[] shelves = {new Shelf(), new Shelf(), new Shelf()};
    private int stepsToRoot;

    public PackedBends() {
        findRoot();
    }

    // ---- 1 quadruples

    public int set(int a, int b, int c, int d) {
        if (!mayBeGiven(a) || !mayBeGiven(b) || !mayBeGiven(c) || !mayBeGiven(d)) {
            return OUTSIDE;
        }
        if (!isGood(a, b, c, d)) {
            return STATE;
        }
        now[0] = a;
        now[1] = b;
        now[2] = c;
        now[3] = d;
        findRoot();
        return 1;
    }

    public long bend(int place) {
        return isPlace(place) ? now[place - 1] : LOST;
    }

    public int turn(int place) {
        if (!isPlace(place)) {
            return UNKNOWN;
        }
        long over = turnedOver(now, place - 1);
        if (over > MOST_BEND || over < -MOST_BEND) {
            return OVER;
        }
        now[place - 1] = over;
        findRoot();
        return 1;
    }

    public int steps() {
        return stepsToRoot;
    }

    public int step(int k) {
        if (k < 0) {
            return OUTSIDE;
        }
        if (k >= stepsToRoot) {
            return NONE;
        }
        descent.go(now, k + 1);
        return descent.last + 1;
    }

    public long root(int k) {
        return isIndex(k) ? packing.first[k] : LOST;
    }

    public int common() {
        long divisor = 0;
        for (int i = 0; i < PLACES; i++) {
            divisor = greatestDivisor(divisor, Math.abs(now[i]));
        }
        return (int) divisor;
    }

    // ---- 2 packings

    public int upTo(int n) {
        if (!mayBeAsked(n)) {
            return OUTSIDE;
        }
        return packing.isBound() ? packing.countUpTo(n) : STATE;
    }

    public int just(int n) {
        if (!mayBeAsked(n)) {
            return OUTSIDE;
        }
        return packing.isBound() ? packing.countUpTo(n) - packing.countUpTo(n - 1) : STATE;
    }

    public long least(int k) {
        if (k < 0 || k > MOST_LEAST || !packing.isBound()) {
            return LOST;
        }
        return packing.leastOf(k);
    }

    public int remainders(int m) {
        return m < LEAST_DIVISOR || m > MOST_DIVISOR ? OUTSIDE : packing.remaindersBy(m);
    }

    public int gap(int n, int k) {
        if (n < 1 || n > MOST_ASKED || k < -1 || k > MOST_ASKED) {
            return OUTSIDE;
        }
        return packing.isBound() ? packing.gapUpTo(n, k) : STATE;
    }

    // ---- 3 circles by words

    public long bendOf(int word, int place) {
        if (!isPlace(place) || !sums.read(word)) {
            return LOST;
        }
        return sums.weigh(place - 1, packing.first);
    }

    public long times(int word, int place, int k) {
        if (!isPlace(place) || !isIndex(k) || !sums.read(word)) {
            return LOST;
        }
        return sums.rows[place - 1][k];
    }

    public long product(int one, int p, int other, int q) {
        if (!isPlace(p) || !isPlace(q) || !sums.read(one) || !otherSums.read(other)) {
            return LOST;
        }
        return productOf(sums.rows[p - 1], otherSums.rows[q - 1]);
    }

    public int touching(int word, int other, int q) {
        if (!isPlace(q)) {
            return UNKNOWN;
        }
        if (!sums.read(word) || !otherSums.read(other)) {
            return OUTSIDE;
        }
        int found = 0;
        for (int i = 0; i < PLACES; i++) {
            if (productOf(sums.rows[i], otherSums.rows[q - 1]) == -1) {
                found++;
            }
        }
        return found;
    }

    // ---- 4 copies, shelves

    public int keep(int copy) {
        if (!isCopy(copy)) {
            return UNKNOWN;
        }
        copyFour(now, copies[copy]);
        kept[copy] = true;
        return 1;
    }

    public int back(int copy) {
        if (!isCopy(copy)) {
            return UNKNOWN;
        }
        if (!kept[copy]) {
            return STATE;
        }
        copyFour(copies[copy], now);
        findRoot();
        return 1;
    }

    public int shelf(int t, int sort, int n) {
        if (!isShelf(t)) {
            return UNKNOWN;
        }
        if (sort < 0 || sort > 3 || n > MOST_ON_SHELF) {
            return OUTSIDE;
        }
        if (n < 0) {
            return SIZE;
        }
        shelves[t].renew(sort, n);
        return n;
    }

    public int lay(int t, int i, int place) {
        if (!isShelf(t) || !isPlace(place)) {
            return UNKNOWN;
        }
        return shelves[t].take(i, now[place - 1]);
    }

    public long seen(int t, int i) {
        return isShelf(t) ? shelves[t].look(i) : LOST;
    }

    public int many(int what) {
        switch (what) {
            case 0:
                return countShelves();
            case 1:
                return countCopies();
            case 2:
                return countLaid();
            case 3:
                return packing.isBound() ? 1 : 0;
            default:
                return OUTSIDE;
        }
    }

    // ---- what the calls above share

    private void findRoot() {
        descent.go(now, ENDLESS);
        stepsToRoot = descent.made;
        order(descent.four);
        packing.become(descent.four);
    }

    private int countShelves() {
        int found = 0;
        for (int t = 0; t < SHELVES; t++) {
            if (shelves[t].there) {
                found++;
            }
        }
        return found;
    }

    private int countCopies() {
        int found = 0;
        for (int copy = 0; copy < COPIES; copy++) {
            if (kept[copy]) {
                found++;
            }
        }
        return found;
    }

    private int countLaid() {
        int found = 0;
        for (int t = 0; t < SHELVES; t++) {
            found += shelves[t].countFilled();
        }
        return found;
    }

    private static boolean isPlace(int place) {
        return place >= 1 && place <= PLACES;
    }

    private static boolean isIndex(int k) {
        return k >= 0 && k < PLACES;
    }

    private static boolean isCopy(int copy) {
        return copy >= 0 && copy < COPIES;
    }

    private static boolean isShelf(int t) {
        return t >= 0 && t < SHELVES;
    }

    private static boolean mayBeGiven(int bend) {
        return bend >= LEAST_GIVEN && bend <= MOST_GIVEN;
    }

    private static boolean mayBeAsked(int n) {
        return n >= LEAST_ASKED && n <= MOST_ASKED;
    }

    private static boolean isGood(long a, long b, long c, long d) {
        long all = a + b + c + d;
        return all > 0 && 2 * (a * a + b * b + c * c + d * d) == all * all;
    }

    private static long turnedOver(long[] four, int i) {
        long all = four[0] + four[1] + four[2] + four[3];
        return 2 * (all - four[i]) - four[i];
    }

    private static void copyFour(long[] from, long[] to) {
        for (int i = 0; i < PLACES; i++) {
            to[i] = from[i];
        }
    }

    private static void order(long[] four) {
        for (int end = PLACES - 1; end > 0; end--) {
            for (int i = 0; i < end; i++) {
                if (four[i] > four[i + 1]) {
                    long greater = four[i];
                    four[i] = four[i + 1];
                    four[i + 1] = greater;
                }
            }
        }
    }

    private static long greatestDivisor(long a, long b) {
        long one = a;
        long other = b;
        for (int i = 0; i < ENDLESS && other != 0; i++) {
            long rest = one % other;
            one = other;
            other = rest;
        }
        return one;
    }

    // Like places less unlike ones: all pairs are the two sums multiplied.
    private static long productOf(long[] one, long[] other) {
        long like = 0;
        long sumOne = 0;
        long sumOther = 0;
        for (int i = 0; i < PLACES; i++) {
            like += one[i] * other[i];
            sumOne += one[i];
            sumOther += other[i];
        }
        return 2 * like - sumOne * sumOther;
    }

    /** The way down from a quadruple to the root of its packing. */
    private static final class Descent {
        final long[] four = new long[PLACES];
        int made;
        int last;

        /** Makes the first steps down, so many at most; last is the index of the last one made. */
        void go(long[] from, int most) {
            copyFour(from, four);
            made = 0;
            last = 0;
            for (int i = 0; i < most; i++) {
                int top = greatest();
                long over = turnedOver(four, top);
                if (over >= four[top]) {
                    return;
                }
                four[top] = over;
                last = top;
                made++;
            }
        }

        private int greatest() {
            int top = 0;
            for (int i = 1; i < PLACES; i++) {
                if (four[i] > four[top]) {
                    top = i;
                }
            }
            return top;
        }
    }

    /** The packing of a root, with what has been found out about it so far. */
    private static final class Packing {
        final long[] first = new long[PLACES];
        private final Walk walk = new Walk();
        private final Tally tally = new Tally();
        private final Leasts leasts = new Leasts();
        private final Orbit orbit = new Orbit();
        // By the divisor; 0 is not found yet, for some remainder there always is.
        private final int[] remainderSets = new int[MOST_DIVISOR + 1];

        void become(long[] four) {
            if (isSame(four)) {
                return;
            }
            copyFour(four, first);
            tally.forget();
            leasts.forget();
            for (int m = 0; m <= MOST_DIVISOR; m++) {
                remainderSets[m] = 0;
            }
        }

        boolean isBound() {
            return first[0] < 0;
        }

        // A bound packing has one bend below 0 and none of 0: its first circle holds all others.
        int countUpTo(int n) {
            if (n < 0) {
                return first[0] <= n ? 1 : 0;
            }
            tally.reachTo(n, first, walk);
            return tally.atMost(n);
        }

        long leastOf(int k) {
            leasts.reachTo(k, first, walk);
            return leasts.at(k);
        }

        int remaindersBy(int m) {
            if (remainderSets[m] == 0) {
                remainderSets[m] = orbit.remaindersOf(first, m);
            }
            return remainderSets[m];
        }

        /** The k-th gap up to n, or how many there are if k is -1. */
        int gapUpTo(int n, int k) {
            int allowed = remaindersBy(GAP_DIVISOR);
            tally.reachTo(n, first, walk);
            int found = 0;
            for (int i = 1; i <= n; i++) {
                boolean isGap = (allowed >> i % GAP_DIVISOR & 1) == 1 && tally.atMost(i) == tally.atMost(i - 1);
                if (isGap && found == k) {
                    return i;
                }
                if (isGap) {
                    found++;
                }
            }
            return k < 0 ? found : NONE;
        }

        private boolean isSame(long[] four) {
            for (int i = 0; i < PLACES; i++) {
                if (four[i] != first[i]) {
                    return false;
                }
            }
            return true;
        }
    }

    /**
     * A walk through the circles of a bound packing, but for the four of its root.
     * Going on from a circle, bends only grow, so what lies behind one above the limit is left out;
     * and as to turn twice is to stay, the way back needs no quadruples kept.
     */
    private static final class Walk {
        // Bends along a row grow by steps that grow by 2 at least, so up to 5000 a row has some 70 places;
        // and Leasts goes on no further than the circles that it wants are many.
        private final int[] row = new int[MOST_LEAST + 1];
        private final long[] four = new long[PLACES];
        private int depth;

        void start(long[] root) {
            copyFour(root, four);
            depth = 0;
        }

        /** Goes on to the next circle with a bend of the limit at most; false: there is none. */
        boolean advance(long limit) {
            int i = 0;
            for (int tries = 0; tries < ENDLESS; tries++) {
                if (i < PLACES && mayGo(i, limit)) {
                    goDown(i);
                    return true;
                }
                if (i < PLACES) {
                    i++;
                } else if (depth > 0) {
                    i = goUp() + 1;
                } else {
                    return false;
                }
            }
            return false;
        }

        long found() {
            return depth > 0 ? four[row[depth - 1]] : LOST;
        }

        private boolean mayGo(int i, long limit) {
            return depth < row.length && turnedOver(four, i) <= limit && !isTwiceRunning(i);
        }

        private boolean isTwiceRunning(int i) {
            return depth > 0 && row[depth - 1] == i;
        }

        private void goDown(int i) {
            four[i] = turnedOver(four, i);
            row[depth] = i;
            depth++;
        }

        private int goUp() {
            depth--;
            int i = row[depth];
            four[i] = turnedOver(four, i);
            return i;
        }
    }

    /** How many circles have a bend of 0, 1, .. at most, counted as far as has been asked. */
    private static final class Tally {
        private final int[] counts = new int[MOST_ASKED + 1];
        private int reach = -1;

        void forget() {
            reach = -1;
        }

        // At least twice as far each time, so that many questions cost little more than the last.
        void reachTo(int n, long[] root, Walk walk) {
            if (n <= reach) {
                return;
            }
            reach = Math.min(MOST_ASKED, Math.max(n, 2 * reach));
            for (int i = 0; i <= reach; i++) {
                counts[i] = 0;
            }
            for (int i = 0; i < PLACES; i++) {
                count(root[i]);
            }
            walk.start(root);
            for (int i = 0; i < ENDLESS && walk.advance(reach); i++) {
                count(walk.found());
            }
            for (int i = 1; i <= reach; i++) {
                counts[i] += counts[i - 1];
            }
        }

        int atMost(int n) {
            return n >= 0 && n <= reach ? counts[n] : 0;
        }

        private void count(long bend) {
            if (bend <= reach) {
                counts[(int) Math.max(bend, 0)]++;
            }
        }
    }

    /** The least bends of a packing in order, as many as have been asked for. */
    private static final class Leasts {
        // No turn makes the greatest bend more than 7 times as great, and rows of 7 places alone are 2916:
        // some 20 doublings of the root's greatest bend are enough.
        private static final int DOUBLINGS = 30;

        private final long[] row = new long[MOST_LEAST + 1];
        private int size;
        private int wanted;

        void forget() {
            size = 0;
        }

        long at(int k) {
            return k >= 0 && k < size ? row[k] : LOST;
        }

        void reachTo(int k, long[] root, Walk walk) {
            if (k < size) {
                return;
            }
            wanted = Math.min(row.length, Math.max(k + 1, 2 * size));
            size = 0;
            long limit = 2 * root[PLACES - 1];
            for (int i = 0; i < DOUBLINGS && size < wanted; i++) {
                gather(limit, root, walk);
                limit *= 2;
            }
            straighten();
        }

        // The row is a heap meanwhile, the greatest first: it gives way to any that is less.
        private void gather(long limit, long[] root, Walk walk) {
            size = 0;
            for (int i = 0; i < PLACES; i++) {
                offer(root[i]);
            }
            walk.start(root);
            for (int i = 0; i < ENDLESS && walk.advance(usefulLimit(limit)); i++) {
                offer(walk.found());
            }
        }

        private long usefulLimit(long limit) {
            return size < wanted ? limit : Math.min(limit, row[0] - 1);
        }

        private void offer(long bend) {
            if (size < wanted) {
                row[size] = bend;
                size++;
                rise(size - 1);
            } else if (bend < row[0]) {
                row[0] = bend;
                sink(size);
            }
        }

        private void rise(int from) {
            for (int i = from; i > 0 && row[i] > row[(i - 1) / 2]; i = (i - 1) / 2) {
                swap(i, (i - 1) / 2);
            }
        }

        private void sink(int end) {
            int i = 0;
            for (int child = 1; child < end; child = 2 * i + 1) {
                if (child + 1 < end && row[child + 1] > row[child]) {
                    child++;
                }
                if (row[child] <= row[i]) {
                    return;
                }
                swap(i, child);
                i = child;
            }
        }

        private void straighten() {
            for (int end = size - 1; end > 0; end--) {
                swap(0, end);
                sink(end);
            }
        }

        private void swap(int i, int j) {
            long value = row[i];
            row[i] = row[j];
            row[j] = value;
        }
    }

    /** All quadruples that a root can be turned into, by their remainders alone. */
    private static final class Orbit {
        // A good quadruple meets no more: tried out for each divisor and each four remainders that can be good.
        private static final int MOST_MET = 1220;
        private static final int BITS = 64;

        private final long[] met = new long[MOST_DIVISOR * MOST_DIVISOR * MOST_DIVISOR * MOST_DIVISOR / BITS];
        private final int[] queue = new int[MOST_MET];
        private final int[] four = new int[PLACES];
        private int size;

        int remaindersOf(long[] root, int m) {
            forget();
            for (int i = 0; i < PLACES; i++) {
                four[i] = (int) Math.floorMod(root[i], (long) m);
            }
            meet(m);
            int all = (1 << m) - 1;
            int found = 0;
            for (int i = 0; i < size && found != all; i++) {
                unpack(queue[i], m);
                for (int p = 0; p < PLACES; p++) {
                    found |= 1 << four[p];
                    meetTurned(p, m);
                }
            }
            return found;
        }

        private void forget() {
            for (int i = 0; i < met.length; i++) {
                met[i] = 0;
            }
            size = 0;
        }

        private void unpack(int code, int m) {
            int rest = code;
            for (int i = 0; i < PLACES; i++) {
                four[i] = rest % m;
                rest /= m;
            }
        }

        private int pack(int m) {
            int code = 0;
            for (int i = PLACES - 1; i >= 0; i--) {
                code = code * m + four[i];
            }
            return code;
        }

        private void meetTurned(int p, int m) {
            int before = four[p];
            int all = four[0] + four[1] + four[2] + four[3];
            four[p] = Math.floorMod(2 * (all - before) - before, m);
            meet(m);
            four[p] = before;
        }

        private void meet(int m) {
            int code = pack(m);
            long bit = 1L << code % BITS;
            if ((met[code / BITS] & bit) == 0 && size < queue.length) {
                met[code / BITS] |= bit;
                queue[size] = code;
                size++;
            }
        }
    }

    /** The four circles of a root turned by a word, each as how many times it has each circle of the root. */
    private static final class Sums {
        private static final int HIGHEST_UNIT = 100000000;

        final long[][] rows = new long[PLACES][PLACES];

        /** False: it is no word, and the rows tell nothing. */
        boolean read(int word) {
            if (word < 0 || word / HIGHEST_UNIT > 9) {
                return false;
            }
            beRoot();
            int last = 0;
            for (int unit = HIGHEST_UNIT; unit > 0; unit /= 10) {
                int place = word / unit % 10;
                boolean isBegun = last != 0 || place != 0;
                if (isBegun && (!isPlace(place) || place == last)) {
                    return false;
                }
                if (isBegun) {
                    putOver(place - 1);
                    last = place;
                }
            }
            return true;
        }

        /** The bend of one of the circles, from the bends of the root. */
        long weigh(int i, long[] bends) {
            long sum = 0;
            for (int k = 0; k < PLACES; k++) {
                sum += rows[i][k] * bends[k];
            }
            return sum;
        }

        private void beRoot() {
            for (int i = 0; i < PLACES; i++) {
                for (int k = 0; k < PLACES; k++) {
                    rows[i][k] = i == k ? 1 : 0;
                }
            }
        }

        private void putOver(int i) {
            for (int k = 0; k < PLACES; k++) {
                long all = rows[0][k] + rows[1][k] + rows[2][k] + rows[3][k];
                rows[i][k] = 2 * (all - rows[i][k]) - rows[i][k];
            }
        }
    }

    /** A row of places that takes circles of one sort alone. */
    private static final class Shelf {
        private static final int ABOVE_NOTHING = 0;
        private static final int BELOW_NOTHING = 1;
        private static final int OF_NOTHING = 2;

        boolean there;
        private int sort;
        private int size;
        private final long[] bends = new long[MOST_ON_SHELF];
        private final boolean[] filled = new boolean[MOST_ON_SHELF];

        void renew(int newSort, int newSize) {
            there = true;
            sort = newSort;
            size = newSize;
            for (int i = 0; i < MOST_ON_SHELF; i++) {
                filled[i] = false;
            }
        }

        int take(int i, long bend) {
            if (!there) {
                return MISSING;
            }
            if (!has(i)) {
                return INDEX;
            }
            if (!takes(bend)) {
                return SORT;
            }
            bends[i] = bend;
            filled[i] = true;
            return 1;
        }

        long look(int i) {
            return there && has(i) && filled[i] ? bends[i] : LOST;
        }

        int countFilled() {
            int found = 0;
            for (int i = 0; i < MOST_ON_SHELF; i++) {
                if (filled[i]) {
                    found++;
                }
            }
            return found;
        }

        private boolean has(int i) {
            return i >= 0 && i < size && i < MOST_ON_SHELF;
        }

        private boolean takes(long bend) {
            switch (sort) {
                case ABOVE_NOTHING:
                    return bend > 0;
                case BELOW_NOTHING:
                    return bend < 0;
                case OF_NOTHING:
                    return bend == 0;
                default:
                    return true;
            }
        }
    }
}
