import java.util.ArrayList;
import java.util.List;

/** All that calls can tell of an object, to compare two with the same past. Taking it uses the object up. */
final class Picture {
    private final List<String> rows = new ArrayList<>();
    private final PackedBends x;

    private Picture(PackedBends x) {
        this.x = x;
    }

    static List<String> of(PackedBends x) {
        Picture picture = new Picture(x);
        picture.quadruple();
        picture.packing();
        picture.circles();
        picture.shelves();
        picture.copies();
        picture.whatShelvesTake();
        return picture.rows;
    }

    private void add(String call, long answer) {
        rows.add(call + " = " + answer);
    }

    private void quadruple() {
        bends();
        add("steps()", x.steps());
        for (int k = 0; k < 7; k++) {
            add("step(" + k + ")", x.step(k));
        }
        for (int k = 0; k < 4; k++) {
            add("root(" + k + ")", x.root(k));
            add("many(" + k + ")", x.many(k));
        }
        add("common()", x.common());
    }

    private void bends() {
        for (int place = 1; place <= 4; place++) {
            add("bend(" + place + ")", x.bend(place));
        }
    }

    private void packing() {
        int[] asked = {-100000, -2, -1, 0, 3, 60, 700};
        for (int n : asked) {
            add("upTo(" + n + ")", x.upTo(n));
            add("just(" + n + ")", x.just(n));
        }
        int[] inOrder = {0, 3, 40};
        for (int k : inOrder) {
            add("least(" + k + ")", x.least(k));
        }
        for (int m = 2; m <= 12; m++) {
            add("remainders(" + m + ")", x.remainders(m));
        }
        add("gap(300, -1)", x.gap(300, -1));
        add("gap(300, 0)", x.gap(300, 0));
    }

    private void circles() {
        for (int place = 1; place <= 4; place++) {
            add("bendOf(1234, " + place + ")", x.bendOf(1234, place));
            add("times(12, 2, " + (place - 1) + ")", x.times(12, 2, place - 1));
            add("product(3, 3, 14, " + place + ")", x.product(3, 3, 14, place));
            add("touching(2, 12, " + place + ")", x.touching(2, 12, place));
        }
    }

    private void shelves() {
        for (int t = 0; t < 3; t++) {
            for (int i = 0; i < 6; i++) {
                add("seen(" + t + ", " + i + ")", x.seen(t, i));
            }
        }
    }

    private void copies() {
        for (int copy = 0; copy < 3; copy++) {
            add("back(" + copy + ")", x.back(copy));
            bends();
        }
    }

    /** How long a shelf is and of which sort can be told only by laying. */
    private void whatShelvesTake() {
        for (int t = 0; t < 3; t++) {
            x.set(-1, 2, 2, 3);
            add("below 0: lay(" + t + ", 0, 1)", x.lay(t, 0, 1));
            add("above 0: lay(" + t + ", 0, 2)", x.lay(t, 0, 2));
            x.set(0, 0, 1, 1);
            add("of 0: lay(" + t + ", 0, 1)", x.lay(t, 0, 1));
            for (int i = 1; i < 7; i++) {
                add("lay(" + t + ", " + i + ", 3)", x.lay(t, i, 3));
            }
        }
    }
}
