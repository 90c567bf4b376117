/** Promises 14 to 17: bendOf, times, product, touching. */
public final class WordsTest {
    private static final long LOST = PackedBends.LOST;
    private static final Due DUE = new Due();
    private static final int[] NO_WORDS = {
        -1, -12, 5, 9, 10, 20, 11, 44, 1021, 1201, 122, 1223, 12344, 123450, 612, 100000000, 999999999, 1000000000, 1212121212,
        1111111111, Integer.MAX_VALUE, Integer.MIN_VALUE};
    private static final int[] NO_PLACES = {0, 5, -1, Integer.MIN_VALUE, Integer.MAX_VALUE};

    public static void main(String[] args) {
        bendOf();
        bendOfIsOfTheRoot();
        times();
        timesTellTheBend();
        product();
        touching();
        wrong();
        DUE.end();
    }

    private static void bendOf() {
        PackedBends x = new PackedBends();
        x.set(15, 10, -6, 19);
        long[][] due = {{-6, 10, 15, 19}, {94, 10, 15, 19}, {94, 246, 15, 19}, {94, 246, 703, 19}};
        int[] words = {0, 1, 12, 123};
        for (int i = 0; i < words.length; i++) {
            for (int place = 1; place <= 4; place++) {
                DUE.is("14: bendOf(" + words[i] + ", " + place + ")", x.bendOf(words[i], place), due[i][place - 1]);
            }
        }
        DUE.is("14: the first the highest", x.bendOf(21, 1), 166);
        PackedBends y = new PackedBends();
        DUE.is("14: nine places", y.bendOf(121212121, 1), 479);
        y.set(0, 0, 1000000, 1000000);
        DUE.isTrue("14: above 1000000000 is fine", y.bendOf(123412341, 1) > 1000000000L);
    }

    private static void bendOfIsOfTheRoot() {
        PackedBends x = new PackedBends();
        x.turn(1);
        x.turn(2);
        DUE.is("14: of the root", x.bendOf(0, 1), -1);
        DUE.is("14: of the root", x.bendOf(1, 1), 15);
        DUE.is("14: of the root", x.bendOf(12, 2), 38);
    }

    private static void times() {
        PackedBends x = new PackedBends();
        long[][] once = {{1, 0, 0, 0}, {0, 1, 0, 0}, {0, 0, 1, 0}, {0, 0, 0, 1}};
        for (int place = 1; place <= 4; place++) {
            for (int k = 0; k < 4; k++) {
                DUE.is("15: themselves once", x.times(0, place, k), once[place - 1][k]);
            }
        }
        long[] first = {-1, 2, 2, 2};
        long[] second = {-2, 3, 6, 6};
        for (int k = 0; k < 4; k++) {
            DUE.is("15: times(12, 1, " + k + ")", x.times(12, 1, k), first[k]);
            DUE.is("15: times(12, 2, " + k + ")", x.times(12, 2, k), second[k]);
            DUE.is("15: times(12, 3, " + k + ")", x.times(12, 3, k), once[2][k]);
        }
        int[] noCircles = {-1, 4, Integer.MIN_VALUE, Integer.MAX_VALUE};
        for (int k : noCircles) {
            DUE.is("15: times(12, 1, " + k + ")", x.times(12, 1, k), LOST);
        }
    }

    private static void timesTellTheBend() {
        PackedBends x = new PackedBends();
        x.set(-15, 24, 40, 49);
        int[] words = {4, 31, 432143214, 121212121, 343434343, 143214321};
        for (int word : words) {
            for (int place = 1; place <= 4; place++) {
                long bend = 0;
                for (int k = 0; k < 4; k++) {
                    bend += x.times(word, place, k) * x.root(k);
                }
                DUE.is("14, 15: bendOf(" + word + ", " + place + ")", x.bendOf(word, place), bend);
            }
        }
    }

    private static void product() {
        PackedBends x = new PackedBends();
        int[] words = {0, 1, 12, 123, 1234, 432143214, 121212121};
        for (int word : words) {
            for (int p = 1; p <= 4; p++) {
                for (int q = 1; q <= 4; q++) {
                    DUE.is("16: of four that touch", x.product(word, p, word, q), p == q ? 1 : -1);
                }
            }
        }
        DUE.is("16: put over", x.product(0, 1, 1, 1), -7);
        DUE.is("16: the other way round", x.product(1, 1, 0, 1), -7);
        DUE.is("16: two put over", x.product(1, 1, 2, 2), -17);
        DUE.is("16: the same circle", x.product(13, 1, 14, 1), 1);
        // None of these depends on the quadruple.
        x.set(0, 0, 1, 1);
        DUE.is("16: put over", x.product(0, 1, 1, 1), -7);
    }

    private static void touching() {
        PackedBends x = new PackedBends();
        DUE.is("17: one of the four", x.touching(0, 0, 2), 3);
        DUE.is("17: put over the three", x.touching(0, 1, 1), 3);
        DUE.is("17: put over again", x.touching(0, 12, 2), 2);
        DUE.is("17: once more", x.touching(0, 123, 3), 1);
        DUE.is("17: far away", x.touching(0, 1234, 4), 0);
        DUE.is("17: far away", x.touching(1234, 4321, 1), 0);
        DUE.is("17: of a turned one", x.touching(4, 1, 1), 2);
        DUE.is("17: of a turned one", x.touching(123, 123, 4), 3);
    }

    private static void wrong() {
        PackedBends x = new PackedBends();
        for (int word : NO_WORDS) {
            DUE.is("14: bendOf(" + word + ", 1)", x.bendOf(word, 1), LOST);
            DUE.is("15: times(" + word + ", 1, 0)", x.times(word, 1, 0), LOST);
            DUE.is("16: product(" + word + ", 1, 0, 1)", x.product(word, 1, 0, 1), LOST);
            DUE.is("16: product(0, 1, " + word + ", 1)", x.product(0, 1, word, 1), LOST);
            DUE.is("17: touching(" + word + ", 0, 1)", x.touching(word, 0, 1), PackedBends.OUTSIDE);
            DUE.is("17: touching(0, " + word + ", 1)", x.touching(0, word, 1), PackedBends.OUTSIDE);
            DUE.is("17: UNKNOWN comes first", x.touching(word, word, 0), PackedBends.UNKNOWN);
        }
        for (int place : NO_PLACES) {
            DUE.is("14: bendOf(0, " + place + ")", x.bendOf(0, place), LOST);
            DUE.is("15: times(0, " + place + ", 0)", x.times(0, place, 0), LOST);
            DUE.is("16: product(0, " + place + ", 0, 1)", x.product(0, place, 0, 1), LOST);
            DUE.is("16: product(0, 1, 0, " + place + ")", x.product(0, 1, 0, place), LOST);
            DUE.is("17: touching(0, 0, " + place + ")", x.touching(0, 0, place), PackedBends.UNKNOWN);
        }
    }
}
