import java.util.Random;

/** Long runs of calls, the same each time, whose answers are those of SlowBends: all promises at once. */
public final class RandomRunsTest {
    private static final int[][] ROOTS = {
        {-1, 2, 2, 3}, {-2, 3, 6, 7}, {-3, 4, 12, 13}, {-3, 5, 8, 8}, {-6, 11, 14, 15}, {-6, 10, 15, 19}, {-11, 21, 24, 28},
        {-12, 25, 25, 28}, {-15, 24, 40, 49}, {-30, 31, 930, 931}, {-999, 1000, 999000, 999001}, {0, 0, 1, 1}, {-23, 48, 49, 52}};
    private static final int[] WORDS = {
        0, 1, 2, 3, 4, 12, 43, 121, 123, 4321, 2424, 34343, 121212121, 434343434, 123412341, 432143214, 214321432,
        11, 5, 10, 102, 1223, 1223412, -1, -12, 1212121212, 1000000000, Integer.MAX_VALUE, Integer.MIN_VALUE, 999999999, 123456, 100000000};
    private static final int[] ODD = {
        Integer.MIN_VALUE, Integer.MAX_VALUE, -100001, -100000, -99999, 1000000, 1000001, 5000, 5001, 4999, 2000, 2001, 1000000000};

    private static final int CALLS = 512;
    private static final int MOST_AT_ONCE = 3;

    private final Random random;
    private final Due due;
    private final PackedBends fast = new PackedBends();
    private final SlowBends slow = new SlowBends();
    private final boolean mayBeDear;
    private int calls = 0;

    private RandomRunsTest(long seed, Due due, boolean mayBeDear) {
        this.random = new Random(seed);
        this.due = due;
        this.mayBeDear = mayBeDear;
    }

    public static void main(String[] args) {
        Due due = new Due();
        for (int seed = 0; seed < 400 && due.wrong() < 20; seed++) {
            RandomRunsTest run = new RandomRunsTest(seed, due, seed % 8 == 0);
            while (run.calls <= CALLS - MOST_AT_ONCE) {
                run.call(seed, run.random.nextInt(24));
            }
        }
        due.end();
    }

    private int near(int low, int high) {
        int chance = random.nextInt(20);
        if (chance == 0) {
            return ODD[random.nextInt(ODD.length)];
        }
        return low - 1 + random.nextInt(high - low + 3);
    }

    private int inside(int low, int high) {
        return random.nextInt(12) == 0 ? near(low, high) : low + random.nextInt(high - low + 1);
    }

    private int word() {
        if (random.nextBoolean()) {
            return WORDS[random.nextInt(WORDS.length)];
        }
        int word = 0;
        int last = 0;
        for (int i = random.nextInt(10); i > 0; i--) {
            last = (last + random.nextInt(last == 0 ? 4 : 3)) % 4 + 1;
            word = word * 10 + last;
        }
        return word;
    }

    private int asked() {
        return mayBeDear ? inside(-40, 5000) : inside(-40, 300);
    }

    /** A quadruple of some packing, turned, mixed and made greater; at times spoilt. */
    private int[] quadruple() {
        int[] root = ROOTS[random.nextInt(ROOTS.length)];
        long[] four = {root[0], root[1], root[2], root[3]};
        long scale = random.nextInt(3) == 0 ? 1 + random.nextInt(9) : 1;
        for (int i = random.nextInt(random.nextInt(8) == 0 ? 400 : 6); i > 0; i--) {
            int p = random.nextInt(i > 20 ? 2 : 4);
            long[] next = SlowBends.turned(four, p);
            if (next[p] * scale <= 1100000) {
                four = next;
            }
        }
        int[] result = new int[4];
        int shift = random.nextInt(4);
        int flip = random.nextInt(2);
        for (int i = 0; i < 4; i++) {
            result[flip == 0 ? (i + shift) % 4 : (7 - i - shift) % 4] = (int) (four[i] * scale);
        }
        if (random.nextInt(10) == 0) {
            result[random.nextInt(4)] += random.nextInt(3) - 1;
        }
        if (random.nextInt(20) == 0) {
            result[random.nextInt(4)] = ODD[random.nextInt(ODD.length)];
        }
        return result;
    }

    private void check(int seed, String call, long got, long want) {
        calls++;
        due.is("seed " + seed + ": " + call, got, want);
    }

    private void call(int seed, int which) {
        int place = inside(1, 4);
        int p = inside(1, 4);
        int small = inside(0, 2);
        int k = inside(0, 3);
        int a = word();
        int b = word();
        int n = asked();
        switch (which) {
            case 0, 22 -> {
                int[] q = quadruple();
                check(seed, "set(" + q[0] + ", " + q[1] + ", " + q[2] + ", " + q[3] + ")", fast.set(q[0], q[1], q[2], q[3]), slow.set(q[0], q[1], q[2], q[3]));
            }
            case 1 -> check(seed, "bend(" + place + ")", fast.bend(place), slow.bend(place));
            case 2, 23 -> {
                int times = 1 + random.nextInt(MOST_AT_ONCE);
                for (int i = 0; i < times; i++) {
                    int at = inside(1, 4);
                    check(seed, "turn(" + at + ")", fast.turn(at), slow.turn(at));
                }
            }
            case 3 -> check(seed, "steps()", fast.steps(), slow.steps());
            case 4 -> {
                int at = inside(0, random.nextBoolean() ? 3 : 40);
                check(seed, "step(" + at + ")", fast.step(at), slow.step(at));
            }
            case 5 -> check(seed, "root(" + k + ")", fast.root(k), slow.root(k));
            case 6 -> check(seed, "common()", fast.common(), slow.common());
            case 7 -> check(seed, "upTo(" + n + ")", fast.upTo(n), slow.upTo(n));
            case 8 -> check(seed, "just(" + n + ")", fast.just(n), slow.just(n));
            case 9 -> {
                int at = mayBeDear ? inside(0, 2000) : inside(0, 60);
                check(seed, "least(" + at + ")", fast.least(at), slow.least(at));
            }
            case 10 -> {
                int m = inside(2, 12);
                check(seed, "remainders(" + m + ")", fast.remainders(m), slow.remainders(m));
            }
            case 11 -> {
                int at = inside(-1, random.nextBoolean() ? 3 : 60);
                check(seed, "gap(" + n + ", " + at + ")", fast.gap(n, at), slow.gap(n, at));
            }
            case 12 -> check(seed, "bendOf(" + a + ", " + place + ")", fast.bendOf(a, place), slow.bendOf(a, place));
            case 13 -> check(seed, "times(" + a + ", " + place + ", " + k + ")", fast.times(a, place, k), slow.times(a, place, k));
            case 14 -> check(seed, "product(" + a + ", " + place + ", " + b + ", " + p + ")", fast.product(a, place, b, p), slow.product(a, place, b, p));
            case 15 -> check(seed, "touching(" + a + ", " + b + ", " + p + ")", fast.touching(a, b, p), slow.touching(a, b, p));
            case 16 -> check(seed, "keep(" + small + ")", fast.keep(small), slow.keep(small));
            case 17 -> check(seed, "back(" + small + ")", fast.back(small), slow.back(small));
            case 18 -> {
                int size = near(0, 6);
                check(seed, "shelf(" + small + ", " + k + ", " + size + ")", fast.shelf(small, k, size), slow.shelf(small, k, size));
            }
            case 19 -> {
                int i = near(0, 5);
                check(seed, "lay(" + small + ", " + i + ", " + place + ")", fast.lay(small, i, place), slow.lay(small, i, place));
            }
            case 20 -> {
                int i = near(0, 5);
                check(seed, "seen(" + small + ", " + i + ")", fast.seen(small, i), slow.seen(small, i));
            }
            default -> check(seed, "many(" + k + ")", fast.many(k), slow.many(k));
        }
    }
}
