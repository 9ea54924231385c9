/** Promises 18 to 21: each sentence that names an edge has a test of its own. */
public final class TouchEdgesTest {
    private static final Due due = new Due();
    private static final int OUTSIDE = SeamCell.OUTSIDE, FULL = SeamCell.FULL, NO = SeamCell.NO;

    public static void main(String[] args) {
        touchRanges();
        shutInFromBothSides();
        notBeyondFirst();
        lowAboveHigh();
        refusedTouch();
        twentyTouches();
        touchOrder();
        shutEdges();
        shiftEdges();
        shiftOnly();
        shiftedEdges();
        shiftInTheCell();
        due.end();
    }

    private static void shutIs(SeamCell x, int axis, int low, int high) {
        due.is(low, x.shut(axis, 0), "shut(" + axis + ", 0)");
        due.is(high, x.shut(axis, 1), "shut(" + axis + ", 1)");
    }

    // ---- promise 18

    private static void touchRanges() {
        due.says(18, "OUTSIDE: axis");
        due.range(0, 1, OUTSIDE, "touch(n, 0, 0, 0)", n -> new SeamCell().touch(n, 0, 0, 0));
        due.says(18, "OUTSIDE: v not -100 to 100");
        due.range(-100, 100, OUTSIDE, "touch(0, n, 0, 0)", n -> new SeamCell().touch(0, n, 0, 0));
        due.range(-100, 100, OUTSIDE, "touch(1, n, n, 0)", n -> new SeamCell().touch(1, n, n, 0));
        due.says(18, "OUTSIDE: m not -200 to 200");
        due.range(-200, 200, OUTSIDE, "touch(0, 0, n, 0)", n -> new SeamCell().touch(0, 0, n, 0));
        due.range(-200, 200, OUTSIDE, "touch(1, 100, n, 0)", n -> new SeamCell().touch(1, 100, n, 0));
        due.says(18, "OUTSIDE: ERR (0 to 50)");
        due.range(0, 50, OUTSIDE, "touch(0, 0, 0, n)", n -> new SeamCell().touch(0, 0, 0, n));
        due.says(18, "OUTSIDE. They change nothing");
        SeamCell x = new SeamCell();
        int[][] wrong = {{-1, 0, 0, 5}, {2, 0, 0, 5}, {0, -101, -101, 5}, {0, 101, 101, 5}, {0, 0, -201, 5},
            {0, 0, 201, 5}, {0, 0, 0, -1}, {0, 0, 0, 51}, {1, 0, 0, -1}, {1, 101, 101, 5}};
        for (int[] w : wrong) due.is(OUTSIDE, x.touch(w[0], w[1], w[2], w[3]), "touch outside");
        due.is(0, x.told(2), "told(2)");
        shutIs(x, 0, -20, 20);
        shutIs(x, 1, -20, 20);
    }

    private static void shutInFromBothSides() {
        due.says(18, "the SHIFT there is from m less v less ERR to m less v and ERR, so all of them shut it in");
        SeamCell x = new SeamCell();
        due.is(1, x.touch(0, 30, 35, 10), "touch(0, 30, 35, 10)");
        shutIs(x, 0, -5, 15);
        shutIs(x, 1, -20, 20);
        due.is(2, x.touch(0, -30, -33, 10), "touch(0, -30, -33, 10)");
        shutIs(x, 0, -5, 7);
        due.is(3, x.touch(0, 0, 9, 12), "touch(0, 0, 9, 12)");
        shutIs(x, 0, -3, 7);
        due.is(4, x.touch(0, 0, 0, 50), "touch(0, 0, 0, 50): a wide one changes nothing");
        shutIs(x, 0, -3, 7);
        due.is(5, x.touch(1, 100, 81, 0), "touch(1, 100, 81, 0): with ERR 0");
        shutIs(x, 1, -19, -19);
        shutIs(x, 0, -3, 7);
    }

    private static void notBeyondFirst() {
        due.says(18, "from LOW to HIGH (at first -20 to 20)");
        SeamCell x = new SeamCell();
        due.is(1, x.touch(0, 0, 0, 19), "touch(0, 0, 0, 19)");
        shutIs(x, 0, -19, 19);
        SeamCell y = new SeamCell();
        due.is(1, y.touch(0, 0, 0, 20), "touch(0, 0, 0, 20)");
        shutIs(y, 0, -20, 20);
        due.is(2, y.touch(0, 0, 0, 21), "touch(0, 0, 0, 21)");
        shutIs(y, 0, -20, 20);
        due.is(3, y.touch(1, -100, -50, 50), "touch(1, -100, -50, 50)");
        shutIs(y, 1, 0, 20);
        due.is(4, y.touch(1, 100, 50, 50), "touch(1, 100, 50, 50)");
        shutIs(y, 1, 0, 0);
    }

    private static void lowAboveHigh() {
        due.says(18, "NO: LOW would be above HIGH");
        for (int axis = 0; axis <= 1; axis++) {
            due.is(1, new SeamCell().touch(axis, 0, 20, 0), "touch at 20");
            due.is(NO, new SeamCell().touch(axis, 0, 21, 0), "touch at 21");
            due.is(1, new SeamCell().touch(axis, 0, -20, 0), "touch at -20");
            due.is(NO, new SeamCell().touch(axis, 0, -21, 0), "touch at -21");
            due.is(1, new SeamCell().touch(axis, 0, 70, 50), "touch from 20 to 120");
            due.is(NO, new SeamCell().touch(axis, 0, 71, 50), "touch from 21 to 121");
            due.is(1, new SeamCell().touch(axis, 0, -70, 50), "touch from -120 to -20");
            due.is(NO, new SeamCell().touch(axis, 0, -71, 50), "touch from -121 to -21");
            due.is(NO, new SeamCell().touch(axis, -100, 200, 50), "touch from 250 to 350");
            due.is(NO, new SeamCell().touch(axis, 100, -200, 50), "touch from -350 to -250");
        }
        SeamCell x = new SeamCell();
        x.touch(0, 0, 5, 2);
        due.is(2, x.touch(0, 0, 9, 2), "touch(0, 0, 9, 2): 7 alone is left");
        shutIs(x, 0, 7, 7);
        due.is(3, x.touch(0, 0, 7, 0), "touch(0, 0, 7, 0): LOW is HIGH");
        due.is(NO, x.touch(0, 0, 8, 0), "touch(0, 0, 8, 0)");
        due.is(NO, x.touch(0, 0, 6, 0), "touch(0, 0, 6, 0)");
        due.is(4, x.touch(1, 0, 8, 0), "touch(1, 0, 8, 0): the other axis");
    }

    private static void refusedTouch() {
        due.says(18, "NO. They change nothing");
        SeamCell x = new SeamCell();
        x.touch(0, 0, 5, 2);
        x.touch(1, 0, -5, 2);
        due.is(NO, x.touch(0, 0, 10, 2), "touch(0, 0, 10, 2)");
        due.is(NO, x.touch(0, 0, 0, 2), "touch(0, 0, 0, 2)");
        due.is(NO, x.touch(1, 0, 0, 2), "touch(1, 0, 0, 2)");
        due.is(2, x.told(2), "told(2)");
        shutIs(x, 0, 3, 7);
        shutIs(x, 1, -7, -3);
        due.is(3, x.touch(0, 0, 5, 2), "touch(0, 0, 5, 2)");
        due.is(3, x.clear(2), "clear(2)");
    }

    private static void twentyTouches() {
        due.says(18, "FULL: 20");
        SeamCell x = new SeamCell();
        for (int k = 1; k <= 20; k++) due.is(k, x.touch(k < 5 ? 1 : 0, 0, 0, 20), "touch " + k);
        due.is(FULL, x.touch(0, 0, 0, 3), "touch 21");
        due.is(FULL, x.touch(1, 0, 0, 3), "touch 21 on the other axis");
        due.is(20, x.told(2), "told(2)");
        shutIs(x, 0, -20, 20);
        shutIs(x, 1, -20, 20);
        due.is(20, x.clear(2), "clear(2)");
        due.is(1, x.touch(0, 0, 0, 3), "touch behind clear(2)");
        shutIs(x, 0, -3, 3);
    }

    private static void touchOrder() {
        due.says(18, "the first of these that fits: OUTSIDE, FULL, NO");
        SeamCell x = new SeamCell();
        due.is(OUTSIDE, x.touch(2, 0, 100, 0), "touch: OUTSIDE and NO");
        due.is(OUTSIDE, x.touch(0, -101, 100, 0), "touch: OUTSIDE and NO");
        due.is(OUTSIDE, x.touch(0, 0, 201, 0), "touch: OUTSIDE and NO");
        for (int k = 1; k <= 20; k++) x.touch(0, 0, 0, 20);
        due.is(FULL, x.touch(0, 0, 100, 0), "touch: FULL and NO");
        due.is(OUTSIDE, x.touch(0, 0, 0, 51), "touch: OUTSIDE and FULL");
        due.is(OUTSIDE, x.touch(-1, 0, 0, 0), "touch: OUTSIDE and FULL");
        due.is(OUTSIDE, x.touch(0, 0, 201, 0), "touch: all three");
        due.is(20, x.told(2), "told(2)");
    }

    // ---- promise 19

    private static void shutEdges() {
        due.says(19, "OUTSIDE (-1002)");
        due.range(0, 1, -1002, "shut(n, 0)", n -> new SeamCell().shut(n, 0));
        due.range(0, 1, -1002, "shut(0, n)", n -> new SeamCell().shut(0, n));
        due.is(-1002, new SeamCell().shut(2, 2), "shut(2, 2)");
        due.says(19, "LOW (side = 0), HIGH (1) of an axis");
        SeamCell x = new SeamCell();
        shutIs(x, 0, -20, 20);
        shutIs(x, 1, -20, 20);
        x.touch(0, 0, 2, 1);
        x.touch(1, 0, -3, 2);
        shutIs(x, 0, 1, 3);
        shutIs(x, 1, -5, -1);
    }

    // ---- promise 20

    private static void shiftEdges() {
        due.says(20, "LOW and HIGH together by 2, cut towards 0");
        int[][] from = {{-20, 20, 0}, {0, 1, 0}, {-1, 0, 0}, {1, 2, 1}, {-2, -1, -1}, {2, 3, 2}, {-3, -2, -2},
            {-1, 2, 0}, {-2, 1, 0}, {20, 20, 20}, {-20, -20, -20}, {-20, 19, 0}, {-19, 20, 0}, {-20, 17, -1},
            {-17, 20, 1}, {19, 20, 19}, {-20, -19, -19}, {3, 3, 3}, {-3, -3, -3}};
        for (int axis = 0; axis <= 1; axis++) {
            for (int[] f : from) {
                SeamCell x = new SeamCell();
                // The low end with one touch, the high end with another one.
                x.touch(axis, 0, f[0] + 50, 50);
                x.touch(axis, 0, f[1] - 50, 50);
                shutIs(x, axis, f[0], f[1]);
                due.is(1, x.shift(), "shift()");
                due.is(f[2], x.shifted(axis), "shifted(" + axis + ") of " + f[0] + " to " + f[1]);
                due.is(0, x.shifted(1 - axis), "shifted(" + (1 - axis) + ")");
            }
        }
    }

    private static void shiftOnly() {
        due.says(20, "To SHIFT: on both axes");
        SeamCell x = new SeamCell();
        x.touch(0, 0, 9, 0);
        x.touch(1, 0, -9, 0);
        due.is(0, x.shifted(0), "shifted(0): a touch alone does not shift");
        due.is(0, x.shifted(1), "shifted(1): a touch alone does not shift");
        due.is(1, x.shift(), "shift()");
        due.is(9, x.shifted(0), "shifted(0)");
        due.is(-9, x.shifted(1), "shifted(1)");
        shutIs(x, 0, 9, 9);
        due.is(2, x.told(2), "told(2): the touches stay");
        due.is(1, x.shift(), "shift() once more");
        due.is(9, x.shifted(0), "shifted(0): it is not shifted twice");
        x.clear(2);
        due.is(9, x.shifted(0), "shifted(0) behind clear(2)");
        due.is(1, x.shift(), "shift() without touches");
        due.is(0, x.shifted(0), "shifted(0)");
        due.is(0, x.shifted(1), "shifted(1)");
    }

    // ---- promise 21

    private static void shiftedEdges() {
        due.says(21, "OUTSIDE (-1002)");
        due.range(0, 1, -1002, "shifted(n)", n -> new SeamCell().shifted(n));
        due.says(21, "The SHIFT on an axis");
        for (int shift : new int[] {-20, -6, -1, 0, 20}) {
            SeamCell x = new SeamCell();
            x.touch(0, 0, shift, 0);
            x.touch(1, 0, -shift / 2, 0);
            x.shift();
            due.is(shift, x.shifted(0), "shifted(0)");
            due.is(-shift / 2, x.shifted(1), "shifted(1)");
        }
    }

    private static void shiftInTheCell() {
        due.says(21, "and the SHIFT (it is not turned)");
        SeamCell x = new SeamCell();
        x.table(0, 200);
        x.seam(10, 0, 20, 0, 1, 0);
        x.seam(0, 10, 0, 20, 1, 0);
        x.touch(0, 0, 7, 0);
        x.touch(1, 0, -4, 0);
        x.shift();
        due.is(0, x.about(0, 3), "about(0, 3)");
        due.is(17, x.about(0, 4), "about(0, 4)");
        due.is(196, x.about(0, 5), "about(0, 5)");
        due.is(1, x.about(1, 3), "about(1, 3)");
        due.is(-10 + 7, x.about(1, 4), "about(1, 4)");
        due.is(196, x.about(1, 5), "about(1, 5)");
        due.is(-20 + 7, x.about(1, 6), "about(1, 6)");
        x.times(0, 1, 0, 1);
        x.home(17, 196);
        x.add(0, 0);
        due.is(0, x.row(0, 2), "row(0, 2): HOME is not shifted");
    }
}
