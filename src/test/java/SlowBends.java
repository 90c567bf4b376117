import java.util.ArrayList;
import java.util.Arrays;
import java.util.HashSet;
import java.util.List;
import java.util.PriorityQueue;
import java.util.Set;
import java.util.TreeSet;

/** The document once more, written straight from its words and with the library, to compare with. */
final class SlowBends {
    static final int UNKNOWN = -1, OUTSIDE = -2, STATE = -3, OVER = -5, NONE = -9, MISSING = -11, INDEX = -13, SIZE = -14, SORT = -15;
    static final long LOST = Long.MIN_VALUE;

    private record Circle(long bend, long[] four, int last) { }

    private long[] quadruple = {-1, 2, 2, 3};
    private final long[][] copies = new long[3][];
    private final Long[][] shelves = new Long[3][];
    private final int[] sorts = new int[3];

    int set(int a, int b, int c, int d) {
        long[] four = {a, b, c, d};
        for (long bend : four) {
            if (bend < -100000 || bend > 1000000) {
                return OUTSIDE;
            }
        }
        if (!good(four)) {
            return STATE;
        }
        quadruple = four;
        return 1;
    }

    static boolean good(long[] four) {
        long squares = Arrays.stream(four).map(x -> x * x).sum();
        long all = Arrays.stream(four).sum();
        return 2 * squares == all * all && all > 0;
    }

    static long[] turned(long[] four, int i) {
        long others = 0;
        for (int j = 0; j < 4; j++) {
            if (j != i) {
                others += four[j];
            }
        }
        long[] result = four.clone();
        result[i] = 2 * others - four[i];
        return result;
    }

    private static boolean place(int place) {
        return place >= 1 && place <= 4;
    }

    long bend(int place) {
        return place(place) ? quadruple[place - 1] : LOST;
    }

    int turn(int place) {
        if (!place(place)) {
            return UNKNOWN;
        }
        long[] four = turned(quadruple, place - 1);
        if (Math.abs(four[place - 1]) > 1000000000L) {
            return OVER;
        }
        quadruple = four;
        return 1;
    }

    /** Walks down to the root; the places of the steps go to the list. */
    private long[] down(List<Integer> places) {
        long[] four = quadruple;
        while (true) {
            long most = Arrays.stream(four).max().getAsLong();
            int i = 0;
            while (four[i] != most) {
                i++;
            }
            long[] next = turned(four, i);
            if (next[i] >= four[i]) {
                long[] root = four.clone();
                Arrays.sort(root);
                return root;
            }
            four = next;
            places.add(i + 1);
        }
    }

    private long[] rootRow() {
        return down(new ArrayList<>());
    }

    int steps() {
        List<Integer> places = new ArrayList<>();
        down(places);
        return places.size();
    }

    int step(int k) {
        if (k < 0) {
            return OUTSIDE;
        }
        List<Integer> places = new ArrayList<>();
        down(places);
        return k < places.size() ? places.get(k) : NONE;
    }

    long root(int k) {
        return k < 0 || k > 3 ? LOST : rootRow()[k];
    }

    int common() {
        long most = Arrays.stream(quadruple).map(Math::abs).filter(x -> x > 0).min().getAsLong();
        for (long divisor = most; divisor > 1; divisor--) {
            long by = divisor;
            if (most % by == 0 && Arrays.stream(quadruple).allMatch(x -> x % by == 0)) {
                return (int) divisor;
            }
        }
        return 1;
    }

    boolean bound() {
        return rootRow()[0] < 0;
    }

    /** The circles in order, until one has a bend above the limit or there are enough. */
    private List<Long> inOrder(long limit, int enough) {
        PriorityQueue<Circle> queue = new PriorityQueue<>((x, y) -> Long.compare(x.bend, y.bend));
        long[] root = rootRow();
        List<Long> result = new ArrayList<>();
        for (int i = 0; i < 4; i++) {
            queue.add(new Circle(root[i], null, -1));
            queue.add(new Circle(turned(root, i)[i], turned(root, i), i));
        }
        while (result.size() < enough && queue.peek().bend <= limit) {
            Circle circle = queue.poll();
            result.add(circle.bend);
            for (int i = 0; circle.four != null && i < 4; i++) {
                if (i != circle.last) {
                    long[] next = turned(circle.four, i);
                    queue.add(new Circle(next[i], next, i));
                }
            }
        }
        return result;
    }

    int upTo(int n) {
        if (n < -100000 || n > 5000) {
            return OUTSIDE;
        }
        return bound() ? inOrder(n, Integer.MAX_VALUE).size() : STATE;
    }

    int just(int n) {
        if (n < -100000 || n > 5000) {
            return OUTSIDE;
        }
        return bound() ? (int) inOrder(n, Integer.MAX_VALUE).stream().filter(x -> x == n).count() : STATE;
    }

    long least(int k) {
        if (k < 0 || k > 2000 || !bound()) {
            return LOST;
        }
        return inOrder(Long.MAX_VALUE, k + 1).get(k);
    }

    int remainders(int m) {
        if (m < 2 || m > 12) {
            return OUTSIDE;
        }
        long[] root = rootRow();
        List<List<Long>> all = new ArrayList<>();
        Set<List<Long>> met = new HashSet<>();
        meet(root, m, all, met);
        int set = 0;
        for (int at = 0; at < all.size(); at++) {
            List<Long> rest = all.get(at);
            long[] four = {rest.get(0), rest.get(1), rest.get(2), rest.get(3)};
            for (int i = 0; i < 4; i++) {
                set |= 1 << four[i];
                meet(turned(four, i), m, all, met);
            }
        }
        return set;
    }

    private static void meet(long[] four, int m, List<List<Long>> all, Set<List<Long>> met) {
        List<Long> rest = new ArrayList<>();
        for (long bend : four) {
            rest.add((bend % m + m) % m);
        }
        if (met.add(rest)) {
            all.add(rest);
        }
    }

    int gap(int n, int k) {
        if (n < 1 || n > 5000 || k < -1 || k > 5000) {
            return OUTSIDE;
        }
        if (!bound()) {
            return STATE;
        }
        int allowed = remainders(12);
        Set<Long> bends = new TreeSet<>(inOrder(n, Integer.MAX_VALUE));
        List<Integer> gaps = new ArrayList<>();
        for (int i = 1; i <= n; i++) {
            if ((allowed & 1 << i % 12) != 0 && !bends.contains((long) i)) {
                gaps.add(i);
            }
        }
        return k == -1 ? gaps.size() : k < gaps.size() ? gaps.get(k) : NONE;
    }

    private static boolean word(int word) {
        return word == 0 || Integer.toString(word).matches("(?!.*(.)\\1)[1-4]{1,9}");
    }

    /** The four circles of the root turned by a word, each as its four numbers of times. */
    private static long[][] circles(int word) {
        long[][] result = {{1, 0, 0, 0}, {0, 1, 0, 0}, {0, 0, 1, 0}, {0, 0, 0, 1}};
        String places = word == 0 ? "" : Integer.toString(word);
        for (char sign : places.toCharArray()) {
            long[] sum = new long[4];
            for (int k = 0; k < 4; k++) {
                for (int i = 0; i < 4; i++) {
                    sum[k] += (i == sign - '1' ? -1 : 2) * result[i][k];
                }
            }
            result[sign - '1'] = sum;
        }
        return result;
    }

    long bendOf(int word, int place) {
        if (!place(place) || !word(word)) {
            return LOST;
        }
        long[] four = rootRow();
        String places = word == 0 ? "" : Integer.toString(word);
        for (char sign : places.toCharArray()) {
            four = turned(four, sign - '1');
        }
        return four[place - 1];
    }

    long times(int word, int place, int k) {
        return !place(place) || !word(word) || k < 0 || k > 3 ? LOST : circles(word)[place - 1][k];
    }

    long product(int one, int p, int other, int q) {
        if (!place(p) || !place(q) || !word(one) || !word(other)) {
            return LOST;
        }
        long[] a = circles(one)[p - 1];
        long[] b = circles(other)[q - 1];
        long sum = 0;
        for (int i = 0; i < 4; i++) {
            for (int j = 0; j < 4; j++) {
                sum += i == j ? a[i] * b[j] : -a[i] * b[j];
            }
        }
        return sum;
    }

    int touching(int word, int other, int q) {
        if (!place(q)) {
            return UNKNOWN;
        }
        if (!word(word) || !word(other)) {
            return OUTSIDE;
        }
        int found = 0;
        for (int p = 1; p <= 4; p++) {
            found += product(word, p, other, q) == -1 ? 1 : 0;
        }
        return found;
    }

    int keep(int copy) {
        if (copy < 0 || copy > 2) {
            return UNKNOWN;
        }
        copies[copy] = quadruple;
        return 1;
    }

    int back(int copy) {
        if (copy < 0 || copy > 2) {
            return UNKNOWN;
        }
        if (copies[copy] == null) {
            return STATE;
        }
        quadruple = copies[copy];
        return 1;
    }

    int shelf(int t, int sort, int n) {
        if (t < 0 || t > 2) {
            return UNKNOWN;
        }
        if (sort < 0 || sort > 3 || n > 6) {
            return OUTSIDE;
        }
        if (n < 0) {
            return SIZE;
        }
        shelves[t] = new Long[n];
        sorts[t] = sort;
        return n;
    }

    int lay(int t, int i, int place) {
        if (t < 0 || t > 2 || !place(place)) {
            return UNKNOWN;
        }
        if (shelves[t] == null) {
            return MISSING;
        }
        if (i < 0 || i >= shelves[t].length) {
            return INDEX;
        }
        long bend = quadruple[place - 1];
        boolean[] takes = {bend > 0, bend < 0, bend == 0, true};
        if (!takes[sorts[t]]) {
            return SORT;
        }
        shelves[t][i] = bend;
        return 1;
    }

    long seen(int t, int i) {
        boolean there = t >= 0 && t <= 2 && shelves[t] != null && i >= 0 && i < shelves[t].length && shelves[t][i] != null;
        return there ? shelves[t][i] : LOST;
    }

    int many(int what) {
        int shelvesThere = 0;
        int copiesKept = 0;
        int laid = 0;
        for (int i = 0; i < 3; i++) {
            shelvesThere += shelves[i] == null ? 0 : 1;
            copiesKept += copies[i] == null ? 0 : 1;
            for (int j = 0; shelves[i] != null && j < shelves[i].length; j++) {
                laid += shelves[i][j] == null ? 0 : 1;
            }
        }
        int[] answers = {shelvesThere, copiesKept, laid, bound() ? 1 : 0};
        return what < 0 || what > 3 ? OUTSIDE : answers[what];
    }
}
