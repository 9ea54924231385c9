/** Promises 1 to 13: each sentence that names an edge has a test of its own. */
public final class CellEdgesTest {
    private static final Due due = new Due();
    private static final int UNKNOWN = SeamCell.UNKNOWN, OUTSIDE = SeamCell.OUTSIDE, FULL = SeamCell.FULL;
    private static final int REACH = 1, FREE = 2, FLAT = 4;

    public static void main(String[] args) {
        newObject();
        tableEdges();
        armEdges();
        rulesEdges();
        timesEdges();
        homeEdges();
        barEdges();
        seamEdges();
        clearEdges();
        aboutEdges();
        lacksEdges();
        nearEdges();
        freeEdges();
        due.end();
    }

    private static SeamCell withSeam(int x0, int y0, int x1, int y1) {
        SeamCell x = new SeamCell();
        x.seam(x0, y0, x1, y1, 1, 0);
        return x;
    }

    private static void cellEnds(SeamCell x, int s, int x0, int y0, int x1, int y1) {
        int[] want = {x0, y0, x1, y1};
        for (int k = 0; k < 4; k++) due.is(want[k], x.about(s, 4 + k), "about(" + s + ", " + (4 + k) + ")");
    }

    // ---- promise 1

    private static void newObject() {
        nothingAtFirst();
        callsOnNothing();
        middleAndShiftAtFirst();
        linksAtFirst();
        rulesAtFirst();
        timesAtFirst();
        homeAtFirst();
        eachObjectItsOwn();
    }

    private static void nothingAtFirst() {
        due.says(1, "no SEAMS, BARS, TOUCHES, ACTS");
        SeamCell x = new SeamCell();
        for (int what = 0; what <= 5; what++) due.is(0, x.told(what), "told(" + what + ")");
        for (int which = 0; which <= 4; which++) due.is(0, x.clear(which), "clear(" + which + ")");
    }

    private static void callsOnNothing() {
        due.says(1, "no SEAMS, BARS, TOUCHES, ACTS");
        SeamCell x = new SeamCell();
        due.is(-1001, x.about(0, 0), "about(0, 0)");
        due.is(UNKNOWN, x.lacks(0, 0), "lacks(0, 0)");
        due.is(UNKNOWN, x.near(0, 0), "near(0, 0)");
        due.is(1, x.free(0, 0, 0, 0), "free(0, 0, 0, 0)");
        due.is(1, x.free(-1000, -1000, 1000, 1000), "free from corner to corner");
        due.is(UNKNOWN, x.add(0, 0), "add(0, 0)");
        due.is(UNKNOWN, x.row(0, 0), "row(0, 0)");
        due.is(0, x.total(), "total()");
        due.is(SeamCell.STATE, x.ran(0), "ran(0)");
        due.is(1, x.web(), "web()");
        due.is(0, x.lock(-1), "lock(-1)");
        due.is(SeamCell.NONE, x.lock(0), "lock(0)");
        due.is(0, x.best(), "best()");
        due.is(1, x.run(), "run()");
        for (int what = 0; what <= 4; what++) due.is(0, x.ran(what), "ran(" + what + ")");
    }

    private static void middleAndShiftAtFirst() {
        due.says(1, "As told at first: the middle 0, 0; LOW, HIGH -20 to 20; the SHIFT both 0");
        SeamCell x = withSeam(71, 3, 83, 5);
        cellEnds(x, 0, 71, 3, 83, 5);
        for (int axis = 0; axis <= 1; axis++) {
            due.is(0, x.shifted(axis), "shifted(" + axis + ")");
            due.is(-20, x.shut(axis, 0), "shut(" + axis + ", 0)");
            due.is(20, x.shut(axis, 1), "shut(" + axis + ", 1)");
        }
        due.is(1, x.shift(), "shift()");
        due.is(0, x.shifted(0), "shifted(0) without touches");
        due.is(0, x.shifted(1), "shifted(1) without touches");
    }

    private static void linksAtFirst() {
        due.says(1, "As told at first: LINKS 200, 150");
        SeamCell x = new SeamCell();
        x.seam(30, 40, 60, 40, 1, 0);
        x.seam(30, 39, 60, 39, 1, 0);
        x.seam(10, 80, 0, 80, 1, 0);
        x.seam(11, 80, 0, 80, 1, 0);
        x.seam(10, 81, 0, 81, 1, 0);
        due.is(0, x.lacks(0, 0), "lacks(0, 0): 30, 40 is 50 off");
        due.is(REACH, x.lacks(1, 0), "lacks(1, 0): 30, 39 is nearer");
        x.table(200, 200);
        due.is(0, x.lacks(2, 0), "lacks(2, 0): 210, 280 is 350 off");
        due.is(REACH, x.lacks(3, 0), "lacks(3, 0): 211, 280 is farther");
        due.is(REACH, x.lacks(4, 0), "lacks(4, 0): 210, 281 is farther");
    }

    private static void rulesAtFirst() {
        due.says(1, "As told at first: FLATNESS 100, GAP 20");
        SeamCell x = new SeamCell();
        x.table(0, 200);
        x.seam(0, 0, 50, 50, 1, 0);
        x.seam(0, 20, 50, 71, 1, 0);
        x.seam(1, 20, 90, 0, 1, 0);
        due.is(0, x.lacks(0, 0), "lacks(0, 0): 50 in 50");
        due.is(FLAT, x.lacks(1, 0), "lacks(1, 0): 51 in 50");
        due.is(1, x.near(0, 1), "near(0, 1): 20 off");
        due.is(0, x.near(0, 2), "near(0, 2): the square is 401");
    }

    private static void timesAtFirst() {
        due.says(1, "As told at first: TURN 10, TRAVEL 20, LIFT 5, COOL 10");
        SeamCell x = new SeamCell();
        x.table(0, 200);
        x.home(0, 200);
        x.seam(0, 20, 0, 40, 20, 9);
        x.seam(0, 40, 0, 60, 20, 10);
        x.seam(0, 60, 0, 80, 20, 0);
        x.add(0, 0);
        x.add(1, 0);
        x.add(2, 0);
        due.is(10 + 1, x.row(0, 2), "row(0, 2): a quarter, 20 by 20");
        due.is(12 + 0, x.row(1, 2), "row(1, 2): 9 by 10 is nothing");
        due.is(13 + 1, x.row(2, 2), "row(2, 2): 10 by 10");
        x.home(1, 200);
        due.is(10 + 2, x.row(0, 2), "row(0, 2): a quarter, 21 by 20");
        x.bar(-2, 100, -1, 300);
        due.is(10 + 2 + 2 * 5, x.row(0, 2), "row(0, 2): over a bar");
    }

    private static void homeAtFirst() {
        due.says(1, "As told at first: HOME 0, 300");
        SeamCell x = new SeamCell();
        x.times(0, 1, 0, 1);
        x.table(0, 200);
        x.seam(0, 100, 30, 100, 1, 0);
        x.add(0, 0);
        due.is(0, x.row(0, 2), "row(0, 2): it begins at HOME");
        for (int dx = -1; dx <= 1; dx++) {
            x.table(dx, 200);
            due.is(Math.abs(dx), x.row(0, 2), "row(0, 2): beside HOME");
            x.table(0, 200 - Math.abs(dx));
            due.is(Math.abs(dx), x.row(0, 2), "row(0, 2): below HOME");
        }
    }

    private static void eachObjectItsOwn() {
        due.says(1, "As told at first");
        SeamCell other = withSeam(0, 0, 1, 0);
        other.bar(0, 0, 1, 1);
        other.touch(0, 0, 5, 0);
        other.act(0, 1, 0);
        other.shift();
        other.run();
        SeamCell x = new SeamCell();
        for (int what = 0; what <= 5; what++) due.is(0, x.told(what), "told(" + what + ") beside another object");
        due.is(20, x.shut(0, 1), "shut(0, 1) beside another object");
        due.is(0, x.shifted(0), "shifted(0) beside another object");
        due.is(SeamCell.STATE, x.ran(0), "ran(0) beside another object");
    }

    // ---- promises 2 to 6: what is set

    private static void tableEdges() {
        due.says(2, "THE TABLE has a middle (-200 to 200 both)");
        due.range(-200, 200, OUTSIDE, "table(n, 0)", n -> new SeamCell().table(n, 0));
        due.range(-200, 200, OUTSIDE, "table(0, n)", n -> new SeamCell().table(0, n));
        int[][] corners = {{-200, -200}, {-200, 200}, {200, -200}, {200, 200}};
        for (int[] c : corners) {
            SeamCell x = withSeam(-100, -100, 100, 99);
            due.is(1, x.table(c[0], c[1]), "table");
            cellEnds(x, 0, c[0] - 100, c[1] - 100, c[0] + 100, c[1] + 99);
        }
        due.says(2, "OUTSIDE. They change nothing");
        SeamCell x = withSeam(0, 0, 1, 0);
        x.table(7, 9);
        int[][] wrong = {{201, 0}, {-201, 0}, {0, 201}, {0, -201}, {201, 201}};
        for (int[] w : wrong) due.is(OUTSIDE, x.table(w[0], w[1]), "table(" + w[0] + ", " + w[1] + ")");
        cellEnds(x, 0, 7, 9, 8, 9);
    }

    private static void armEdges() {
        due.says(3, "LINKS a, b (10 to 300)");
        due.range(10, 300, OUTSIDE, "arm(n, 100)", n -> new SeamCell().arm(n, 100));
        due.range(10, 300, OUTSIDE, "arm(100, n)", n -> new SeamCell().arm(100, n));
        leastLinks();
        unlikeLinks(300, 10);
        unlikeLinks(10, 300);
        due.says(3, "OUTSIDE. They change nothing");
        SeamCell x = withSeam(20, 0, 100, 0);
        due.is(1, x.arm(60, 40), "arm(60, 40)");
        int[][] wrong = {{9, 39}, {301, 39}, {59, 9}, {59, 301}, {9, 301}};
        for (int[] w : wrong) {
            due.is(OUTSIDE, x.arm(w[0], w[1]), "arm(" + w[0] + ", " + w[1] + ")");
            due.is(0, x.lacks(0, 0), "lacks(0, 0): from 20 to 100");
        }
    }

    private static void leastLinks() {
        SeamCell x = withSeam(0, 0, 20, 0);
        x.seam(0, 0, 21, 0, 1, 0);
        due.is(1, x.arm(10, 10), "arm(10, 10)");
        due.is(0, x.lacks(0, 0), "lacks(0, 0): from 0 to 20");
        due.is(REACH, x.lacks(1, 0), "lacks(1, 0): to 21");
    }

    private static void unlikeLinks(int a, int b) {
        SeamCell x = withSeam(90, 0, 100, 0);
        x.seam(89, 0, 100, 0, 1, 0);
        x.seam(100, 0, 90, 0, 1, 0);
        x.table(200, 0);
        due.is(1, x.arm(a, b), "arm(" + a + ", " + b + ")");
        due.is(0, x.lacks(0, 0), "lacks(0, 0): from 290 to 300");
        due.is(REACH, x.lacks(1, 0), "lacks(1, 0): from 289");
        x.touch(0, 0, 10, 0);
        x.shift();
        due.is(0, x.lacks(2, 0), "lacks(2, 0): from 310");
        x.clear(2);
        x.touch(0, 0, 11, 0);
        x.shift();
        due.is(REACH, x.lacks(2, 0), "lacks(2, 0): from 311");
    }

    private static void rulesEdges() {
        due.says(4, "FLATNESS (0 to 1000)");
        due.range(0, 1000, OUTSIDE, "rules(n, 0)", n -> new SeamCell().rules(n, 0));
        SeamCell x = withSeam(0, 0, 100, 0);
        x.seam(0, 0, 100, 1, 1, 0);
        x.seam(0, 0, 10, 100, 1, 0);
        x.seam(0, 0, 9, 91, 1, 0);
        due.is(1, x.rules(0, 0), "rules(0, 0)");
        due.is(0, x.lacks(0, 0) & FLAT, "lacks(0, 0): 0 in 100");
        due.is(FLAT, x.lacks(1, 0) & FLAT, "lacks(1, 0): 1 in 100");
        due.is(1, x.rules(1000, 0), "rules(1000, 0)");
        due.is(0, x.lacks(2, 0) & FLAT, "lacks(2, 0): 100 in 10");
        due.is(FLAT, x.lacks(3, 0) & FLAT, "lacks(3, 0): 91 in 9");
        due.says(4, "GAP (0 to 200)");
        due.range(0, 200, OUTSIDE, "rules(0, n)", n -> new SeamCell().rules(0, n));
        gapEdges();
        due.says(4, "OUTSIDE. They change nothing");
        int[][] wrong = {{-1, 0}, {1001, 0}, {0, -1}, {0, 201}, {-1, 201}};
        for (int[] w : wrong) {
            due.is(OUTSIDE, x.rules(w[0], w[1]), "rules(" + w[0] + ", " + w[1] + ")");
            due.is(0, x.lacks(2, 0) & FLAT, "lacks(2, 0): 100 in 10");
            due.is(FLAT, x.lacks(3, 0) & FLAT, "lacks(3, 0): 91 in 9");
        }
    }

    private static void gapEdges() {
        SeamCell x = withSeam(-100, 0, -99, 0);
        x.seam(100, 0, 100, 50, 1, 0);
        x.seam(-99, 1, 100, -20, 1, 0);
        x.seam(-99, 0, -99, 90, 1, 0);
        due.is(1, x.rules(0, 200), "rules(0, 200)");
        due.is(1, x.near(0, 1), "near(0, 1): 199 off");
        x.clear(0);
        x.seam(-100, 0, -100, -1, 1, 0);
        x.seam(100, 0, 100, 50, 1, 0);
        x.seam(100, 1, 100, 50, 1, 0);
        x.seam(-100, -1, 50, -90, 1, 0);
        x.seam(-100, -2, 50, -99, 1, 0);
        due.is(1, x.near(0, 1), "near(0, 1): 200 off");
        due.is(0, x.near(0, 2), "near(0, 2): the square is 40001");
        due.is(1, x.rules(0, 0), "rules(0, 0)");
        due.is(1, x.near(0, 3), "near(0, 3): one place");
        due.is(0, x.near(0, 4), "near(0, 4): 1 off");
        due.is(OUTSIDE, x.rules(0, 201), "rules(0, 201)");
        due.is(OUTSIDE, x.rules(1001, 1), "rules(1001, 1)");
        due.is(0, x.near(0, 4), "near(0, 4) behind refused calls");
        due.is(OUTSIDE, x.rules(0, -1), "rules(0, -1)");
        due.is(0, x.near(0, 4), "near(0, 4) behind refused calls");
    }

    private static void timesEdges() {
        due.says(5, "TURN ticks (0 to 100)");
        due.range(0, 100, OUTSIDE, "times(n, 1, 0, 1)", n -> new SeamCell().times(n, 1, 0, 1));
        due.says(5, "TRAVEL (1 to 100)");
        due.range(1, 100, OUTSIDE, "times(0, n, 0, 1)", n -> new SeamCell().times(0, n, 0, 1));
        due.says(5, "LIFT (0 to 50)");
        due.range(0, 50, OUTSIDE, "times(0, 1, n, 1)", n -> new SeamCell().times(0, 1, n, 1));
        due.says(5, "COOL (1 to 100)");
        due.range(1, 100, OUTSIDE, "times(0, 1, 0, n)", n -> new SeamCell().times(0, 1, 0, n));
        due.says(5, "TURN, TRAVEL, LIFT, COOL: 1");
        SeamCell x = timed();
        due.is(1, x.times(0, 1, 0, 1), "times(0, 1, 0, 1)");
        due.is(0 + 101 + 0, x.row(0, 2), "row(0, 2)");
        due.is(102 + 199, x.row(1, 2), "row(1, 2)");
        due.is(1, x.times(100, 100, 50, 100), "times(100, 100, 50, 100)");
        due.is(100 + 2 + 100, x.row(0, 2), "row(0, 2)");
        due.is(203 + 1, x.row(1, 2), "row(1, 2)");
        due.says(5, "OUTSIDE. They change nothing");
        int[][] wrong = {{-1, 7, 7, 7}, {101, 7, 7, 7}, {7, 0, 7, 7}, {7, 101, 7, 7}, {7, 7, -1, 7},
            {7, 7, 51, 7}, {7, 7, 7, 0}, {7, 7, 7, 101}};
        for (int[] w : wrong) {
            due.is(OUTSIDE, x.times(w[0], w[1], w[2], w[3]), "times outside");
            due.is(100 + 2 + 100, x.row(0, 2), "row(0, 2)");
            due.is(203 + 1, x.row(1, 2), "row(1, 2)");
        }
    }

    /** A seam one quarter off, 101 from HOME, behind a bar, and one that begins where it ends. */
    private static SeamCell timed() {
        SeamCell x = new SeamCell();
        x.table(0, 200);
        x.home(101, 200);
        x.seam(0, 0, 0, 10, 10, 199);
        x.seam(0, 10, 0, 20, 10, 0);
        x.bar(50, 100, 60, 300);
        x.add(0, 0);
        x.add(1, 0);
        return x;
    }

    private static void homeEdges() {
        due.says(6, "HOME (a place in the cell, -400 to 400)");
        due.range(-400, 400, OUTSIDE, "home(n, 0)", n -> new SeamCell().home(n, 0));
        due.range(-400, 400, OUTSIDE, "home(0, n)", n -> new SeamCell().home(0, n));
        SeamCell x = withSeam(60, 0, 70, 0);
        x.times(0, 1, 0, 1);
        x.add(0, 0);
        int[][] homes = {{-400, 0, 460}, {400, 0, 340}, {0, -400, 400}, {0, 400, 400}, {400, 400, 400}};
        for (int[] h : homes) {
            due.is(1, x.home(h[0], h[1]), "home(" + h[0] + ", " + h[1] + ")");
            due.is(h[2], x.row(0, 2), "row(0, 2)");
        }
        due.says(6, "OUTSIDE. They change nothing");
        x.home(59, 0);
        int[][] wrong = {{-401, 0}, {401, 0}, {0, -401}, {0, 401}, {0, Due.MAX}};
        for (int[] w : wrong) {
            due.is(OUTSIDE, x.home(w[0], w[1]), "home(" + w[0] + ", " + w[1] + ")");
            due.is(1, x.row(0, 2), "row(0, 2)");
        }
    }

    // ---- promise 7

    private static void barEdges() {
        due.says(7, "x from x0 to x1, y from y0 to y1 (-400 to 400)");
        due.range(-400, 398, OUTSIDE, "bar(n, 0, 399, 1)", n -> new SeamCell().bar(n, 0, 399, 1));
        due.range(-400, 398, OUTSIDE, "bar(0, n, 1, 399)", n -> new SeamCell().bar(0, n, 1, 399));
        due.range(-398, 400, OUTSIDE, "bar(-399, 0, n, 1)", n -> new SeamCell().bar(-399, 0, n, 1));
        due.range(-398, 400, OUTSIDE, "bar(0, -399, 1, n)", n -> new SeamCell().bar(0, -399, 1, n));
        due.is(1, new SeamCell().bar(-400, -400, 400, 400), "bar(-400, -400, 400, 400)");
        barsOutsideAndUpsideDown();
        thinBars();
        fifthBar();
    }

    private static void barsOutsideAndUpsideDown() {
        due.says(7, "x0 below x1, y0 below y1");
        SeamCell x = new SeamCell();
        int[][] wrong = {{5, 0, 5, 9}, {6, 0, 5, 9}, {0, 5, 9, 5}, {0, 6, 9, 5}, {3, 3, 3, 3}, {9, 9, 0, 0},
            {401, 0, 402, 1}, {-402, 0, -401, 1}, {0, 401, 1, 402}, {0, -402, 1, -401}};
        for (int[] w : wrong) due.is(OUTSIDE, x.bar(w[0], w[1], w[2], w[3]), "bar outside");
        due.is(0, x.told(1), "told(1)");
        due.is(1, x.free(-1000, -1000, 1000, 1000), "free");
        due.is(1, x.bar(4, 8, 5, 9), "bar(4, 8, 5, 9): 1 by 1 is enough");
    }

    private static void thinBars() {
        due.says(7, "BARS are rectangles in the cell: x from x0 to x1, y from y0 to y1");
        SeamCell x = new SeamCell();
        x.bar(399, -400, 400, -399);
        due.is(0, x.free(398, -400, 401, -399), "free: slanting through it");
        due.is(0, x.free(399, -400, 400, -399), "free: from corner to corner");
        due.is(1, x.free(399, -500, 399, -300), "free: along its left side");
        due.is(1, x.free(400, -500, 400, -300), "free: along its right side");
        due.is(1, x.free(300, -400, 500, -400), "free: along its lower side");
        due.is(1, x.free(300, -399, 500, -399), "free: along its upper side");
    }

    private static void fifthBar() {
        due.says(7, "BARS, 4 at most. A BAR: how many. FULL");
        SeamCell x = new SeamCell();
        for (int k = 1; k <= 4; k++) due.is(k, x.bar(20 * k, 0, 20 * k + 10, 10), "bar " + k);
        due.is(FULL, x.bar(200, 0, 210, 10), "bar 5");
        due.is(4, x.told(1), "told(1)");
        due.is(1, x.free(205, 5, 205, 5), "free: bar 5 is not there");
        for (int k = 1; k <= 4; k++) due.is(0, x.free(20 * k + 5, 5, 20 * k + 5, 5), "free: in bar " + k);
        due.says(7, "the first of these that fits: OUTSIDE, FULL");
        due.is(OUTSIDE, x.bar(210, 0, 200, 10), "bar 5, upside down");
        due.is(OUTSIDE, x.bar(-401, 0, 200, 10), "bar 5 from -401");
        due.is(4, x.clear(1), "clear(1)");
        due.is(1, x.bar(200, 0, 210, 10), "bar behind clear(1)");
    }

    // ---- promise 8

    private static void seamEdges() {
        due.says(8, "THE PART is drawn with whole places x, y (-100 to 100)");
        due.range(-100, 100, OUTSIDE, "seam(n, 0, 1, 1, 1, 0)", n -> new SeamCell().seam(n, 0, 1, 1, 1, 0));
        due.range(-100, 100, OUTSIDE, "seam(0, n, 1, 1, 1, 0)", n -> new SeamCell().seam(0, n, 1, 1, 1, 0));
        due.range(-100, 100, OUTSIDE, "seam(0, 0, n, 1, 1, 0)", n -> new SeamCell().seam(0, 0, n, 1, 1, 0));
        due.range(-100, 100, OUTSIDE, "seam(0, 0, 1, n, 1, 0)", n -> new SeamCell().seam(0, 0, 1, n, 1, 0));
        due.says(8, "with a SPEED (1 to 50)");
        due.range(1, 50, OUTSIDE, "seam(0, 0, 1, 1, n, 0)", n -> new SeamCell().seam(0, 0, 1, 1, n, 0));
        due.says(8, "and a HEAT (0 to 1000)");
        due.range(0, 1000, OUTSIDE, "seam(0, 0, 1, 1, 1, n)", n -> new SeamCell().seam(0, 0, 1, 1, 1, n));
        onePlace();
        outermostSeam();
        ninthSeam();
    }

    private static void onePlace() {
        due.says(8, "OUTSIDE: also both ends are one place");
        SeamCell x = new SeamCell();
        due.is(OUTSIDE, x.seam(0, 0, 0, 0, 1, 0), "seam(0, 0, 0, 0, 1, 0)");
        due.is(OUTSIDE, x.seam(-100, 100, -100, 100, 50, 1000), "seam(-100, 100, -100, 100, 50, 1000)");
        due.is(0, x.told(0), "told(0)");
        due.is(0, x.seam(5, 6, 5, 7, 1, 0), "seam: the same x alone");
        due.is(1, x.seam(5, 6, 4, 6, 1, 0), "seam: the same y alone");
        due.is(2, x.seam(5, 6, 6, 5, 1, 0), "seam: x and y changed about");
    }

    private static void outermostSeam() {
        due.says(8, "SEAMS are straight lines of THE PART from one place to another one");
        SeamCell x = new SeamCell();
        due.is(0, x.seam(-100, 100, 100, -100, 50, 1000), "seam");
        cellEnds(x, 0, -100, 100, 100, -100);
        due.is(1000, x.about(0, 2), "about(0, 2)");
    }

    private static void ninthSeam() {
        due.says(8, "SEAMS, 8 at most, numbered from 0 on. FULL");
        SeamCell x = new SeamCell();
        for (int k = 0; k < 8; k++) due.is(k, x.seam(0, 0, k + 1, 0, 1, k), "seam " + k);
        due.is(FULL, x.seam(0, 0, 99, 0, 1, 99), "seam 8");
        due.is(8, x.told(0), "told(0)");
        due.is(-1001, x.about(8, 0), "about(8, 0)");
        for (int k = 0; k < 8; k++) {
            due.is(k + 1, x.about(k, 0), "about(" + k + ", 0)");
            due.is(k, x.about(k, 2), "about(" + k + ", 2)");
        }
        due.says(8, "the first of these that fits: OUTSIDE, FULL");
        due.is(OUTSIDE, x.seam(0, 0, 0, 0, 1, 0), "seam 8 of one place");
        due.is(OUTSIDE, x.seam(0, 0, 101, 0, 1, 0), "seam 8 to 101");
        due.is(OUTSIDE, x.seam(0, 0, 1, 0, 51, 0), "seam 8 with SPEED 51");
        due.is(8, x.clear(0), "clear(0)");
        due.is(0, x.seam(0, 0, 99, 0, 1, 99), "seam behind clear(0)");
        due.is(99, x.about(0, 0), "about(0, 0)");
        due.is(-1001, x.about(1, 0), "about(1, 0)");
    }

    // ---- promise 9

    private static void clearEdges() {
        due.says(9, "UNKNOWN");
        due.range(0, 4, UNKNOWN, "clear(n)", n -> new SeamCell().clear(n));
        clearRefused();
        for (int which = 0; which <= 4; which++) clearFull(which);
        clearTouches();
        clearActs();
        clearKeepsNumbers();
    }

    /** As much of all as there may be. */
    private static SeamCell full() {
        SeamCell x = new SeamCell();
        x.table(0, 150);
        for (int k = 0; k < 8; k++) x.seam(-5, k, 5, k, 1, 0);
        for (int k = 0; k < 4; k++) x.bar(300, 10 * k, 310, 10 * k + 5);
        for (int k = 0; k < 20; k++) x.touch(k % 2, 0, 0, 20 - k / 2);
        for (int k = 0; k < 16; k++) {
            x.act(0, 0, 1);
            x.act(1, k < 15 ? 0 : 1, 1);
        }
        for (int k = 0; k < 8; k++) x.add(k, 0);
        return x;
    }

    private static void clearRefused() {
        due.says(9, "UNKNOWN. They change nothing");
        SeamCell x = full();
        for (int w : new int[] {-1, 5, Due.MIN, Due.MAX}) due.is(UNKNOWN, x.clear(w), "clear(" + w + ")");
        int[] want = {8, 4, 20, 16, 16, 8};
        for (int what = 0; what <= 5; what++) due.is(want[what], x.told(what), "told(" + what + ")");
    }

    /** Taken away is what was asked for (with the seams the row) and nothing else. */
    private static void clearFull(int which) {
        due.says(9, "SEAMS (0), BARS (1), TOUCHES (2), ACTS (3), the ROW (4) are taken away: how many there were");
        SeamCell x = full();
        int[] had = {8, 4, 20, 32, 8};
        due.is(had[which], x.clear(which), "clear(" + which + ")");
        boolean noRow = which == 0 || which == 4;
        int[] want = {which == 0 ? 0 : 8, which == 1 ? 0 : 4, which == 2 ? 0 : 20, which == 3 ? 0 : 16,
            which == 3 ? 0 : 16, noRow ? 0 : 8};
        for (int what = 0; what <= 5; what++) {
            due.is(want[what], x.told(what), "told(" + what + ") behind clear(" + which + ")");
        }
        due.is(which == 1 ? 1 : 0, x.free(305, 1, 305, 1), "free behind clear(" + which + ")");
        due.is(which == 2 ? 20 : 11, x.shut(0, 1), "shut(0, 1) behind clear(" + which + ")");
        due.is(which == 3 ? 1 : 17 * 17, x.web(), "web() behind clear(" + which + ")");
        due.is(0, x.clear(which), "clear(" + which + ") once more");
        due.says(9, "(With SEAMS the ROW goes, too.)");
        due.is(noRow ? UNKNOWN : 0, x.row(0, 0), "row(0, 0) behind clear(" + which + ")");
        due.is(noRow ? 0 : 8 + 8 * 10 + 7, x.total(), "total() behind clear(" + which + ")");
    }

    private static void clearTouches() {
        due.says(9, "TOUCHES (2; LOW, HIGH as at first)");
        SeamCell x = new SeamCell();
        x.touch(0, 0, 7, 1);
        x.touch(1, 0, -7, 1);
        x.shift();
        due.is(2, x.clear(2), "clear(2)");
        for (int axis = 0; axis <= 1; axis++) {
            due.is(-20, x.shut(axis, 0), "shut(" + axis + ", 0)");
            due.is(20, x.shut(axis, 1), "shut(" + axis + ", 1)");
        }
        due.is(7, x.shifted(0), "shifted(0): the SHIFT is no touch");
        due.is(-7, x.shifted(1), "shifted(1): the SHIFT is no touch");
        due.is(1, x.touch(0, 0, -20, 0), "touch where there was no room ahead");
    }

    private static void clearActs() {
        due.says(9, "ACTS (3) are taken away");
        SeamCell x = new SeamCell();
        x.act(0, 1, 4);
        x.act(1, 1, 3);
        x.act(1, 0, 9);
        x.run();
        due.is(3, x.clear(3), "clear(3)");
        due.is(SeamCell.STATE, x.act(0, 2, 4), "act(0, 2, 4): it is in no ZONE any more");
        due.is(SeamCell.STATE, x.act(1, 2, 3), "act(1, 2, 3): it is in no ZONE any more");
        due.is(9, x.ran(0), "ran(0): the latest run() is no act");
        due.is(1, x.act(0, 1, 4), "act(0, 1, 4)");
        due.is(2, x.web(), "web()");
    }

    private static void clearKeepsNumbers() {
        due.says(9, "SEAMS, BARS, TOUCHES, ACTS, the ROW are taken away");
        SeamCell x = new SeamCell();
        x.table(0, 100);
        x.arm(120, 20);
        x.rules(50, 3);
        x.times(1, 2, 3, 4);
        x.home(9, 110);
        for (int which = 0; which <= 4; which++) x.clear(which);
        x.seam(0, 0, 20, 10, 5, 9);
        x.seam(20, 13, 0, 13, 5, 9);
        x.seam(0, 0, 20, 11, 5, 9);
        x.bar(4, 95, 5, 110);
        due.is(FREE, x.lacks(0, 0), "lacks(0, 0)");
        due.is(FREE + FLAT, x.lacks(2, 0), "lacks(2, 0)");
        x.clear(1);
        x.add(0, 0);
        x.add(1, 0);
        due.is(5, x.row(0, 2), "row(0, 2): 10 by 2");
        due.is(10 + 2, x.row(1, 2), "row(1, 2): near, 9 by 4 and 3 by 2 are both 2");
    }

    // ---- promise 10

    private static void aboutEdges() {
        due.says(10, "UNKNOWN (-1001)");
        due.range(0, 0, -1001, "about(n, 0) of one seam", n -> withSeam(0, 0, 1, 0).about(n, 0));
        due.is(-1001, new SeamCell().about(0, 0), "about(0, 0) without seams");
        due.says(10, "OUTSIDE (-1002)");
        due.range(0, 7, -1002, "about(0, n)", n -> withSeam(0, 0, 1, 0).about(0, n));
        due.says(10, "the first of these that fits: UNKNOWN, OUTSIDE");
        for (int w : new int[] {-1, 8}) {
            due.is(-1001, withSeam(0, 0, 1, 0).about(1, w), "about(1, " + w + ")");
            due.is(-1001, withSeam(0, 0, 1, 0).about(-1, w), "about(-1, " + w + ")");
        }
        lengths();
        seamTimes();
        heats();
        quarters();
        withoutQuarter();
    }

    private static void lengths() {
        due.says(10, "LENGTH: ROOT UP: the least whole number whose square is not below");
        int[][] lines = {{0, 0, 1, 0, 1}, {0, 0, 0, -1, 1}, {0, 0, 1, 1, 2}, {0, 0, 3, 4, 5}, {0, 0, 3, 5, 6},
            {3, 3, 0, 0, 5}, {-60, -80, 60, 80, 200}, {-60, -80, 60, 81, 201}, {0, 0, 100, 1, 101},
            {0, 0, 99, 14, 100}, {-100, 0, 100, 0, 200}, {-100, 100, 100, -100, 283}, {0, 0, 2, 0, 2}};
        for (int[] l : lines) {
            due.is(l[4], withSeam(l[0], l[1], l[2], l[3]).about(0, 0), "about(0, 0) to " + l[2] + ", " + l[3]);
        }
    }

    private static void seamTimes() {
        due.says(10, "TIME: LENGTH UP by SPEED");
        int[][] lines = {{50, 50, 1}, {51, 50, 2}, {49, 50, 1}, {1, 50, 1}, {100, 50, 2}, {10, 5, 2}, {11, 5, 3},
            {9, 5, 2}, {1, 1, 1}, {100, 1, 100}};
        for (int[] l : lines) {
            SeamCell x = new SeamCell();
            x.seam(0, 0, l[0], 0, l[1], 0);
            due.is(l[2], x.about(0, 1), "about(0, 1) of " + l[0] + " with SPEED " + l[1]);
        }
    }

    private static void heats() {
        due.says(10, "2 HEAT");
        for (int heat : new int[] {0, 1, 999, 1000}) {
            SeamCell x = new SeamCell();
            x.seam(0, 0, 1, 0, 1, heat);
            due.is(heat, x.about(0, 2), "about(0, 2)");
        }
    }

    private static void quarters() {
        due.says(10, "3 its QUARTER: the least at which it is GOOD; 4 to 7 in the cell, as it is at its QUARTER");
        SeamCell t = withSeam(13, 9, 33, 11);
        t.rules(1000, 0);
        t.table(0, 200);
        int[][] turned = {{13, 209, 33, 211}, {-9, 213, -11, 233}, {-13, 191, -33, 189}, {9, 187, 11, 167}};
        int[][] bars = {{20, 205, 25, 215}, {-12, 220, -8, 222}, {-25, 185, -20, 195}, {8, 170, 12, 175}};
        for (int q = 0; q < 4; q++) {
            due.is(q, t.about(0, 3), "about(0, 3) with " + q + " quarters barred");
            cellEnds(t, 0, turned[q][0], turned[q][1], turned[q][2], turned[q][3]);
            t.bar(bars[q][0], bars[q][1], bars[q][2], bars[q][3]);
        }
        due.is(SeamCell.NONE, t.about(0, 3), "about(0, 3) with 4 quarters barred");
        SeamCell x = withSeam(0, 0, 10, 0);
        x.table(0, 200);
        due.is(0, x.about(0, 3), "about(0, 3): good at 0 and 2");
        x.bar(1, 190, 9, 210);
        due.is(2, x.about(0, 3), "about(0, 3): good at 2 alone");
        x.rules(1000, 0);
        due.is(2, x.about(0, 3), "about(0, 3): upright it is not flat");
    }

    private static void withoutQuarter() {
        due.says(10, "3 its QUARTER (NONE), 4 in the cell (at 0 without)");
        SeamCell x = withSeam(1, 2, 3, 5);
        x.table(10, 20);
        due.is(SeamCell.NONE, x.about(0, 3), "about(0, 3)");
        cellEnds(x, 0, 11, 22, 13, 25);
        x.touch(0, 0, -20, 0);
        x.touch(1, 0, 20, 0);
        x.shift();
        due.is(SeamCell.NONE, x.about(0, 3), "about(0, 3)");
        cellEnds(x, 0, -9, 42, -7, 45);
        due.is(4, x.about(0, 0), "about(0, 0) without a quarter");
    }

    // ---- promise 11

    private static void lacksEdges() {
        due.says(11, "UNKNOWN: the SEAM");
        due.range(0, 0, UNKNOWN, "lacks(n, 0) of one seam", n -> withSeam(0, 0, 1, 0).lacks(n, 0));
        due.is(UNKNOWN, new SeamCell().lacks(0, 0), "lacks(0, 0) without seams");
        due.says(11, "OUTSIDE: q");
        due.range(0, 3, OUTSIDE, "lacks(0, n)", n -> withSeam(0, 0, 1, 0).lacks(0, n));
        due.says(11, "the first of these that fits: UNKNOWN, OUTSIDE");
        due.is(UNKNOWN, withSeam(0, 0, 1, 0).lacks(1, 4), "lacks(1, 4)");
        due.is(UNKNOWN, withSeam(0, 0, 1, 0).lacks(-1, -1), "lacks(-1, -1)");
        together();
        within();
        withinBetween();
        barred();
        flat();
        flatTurned();
    }

    private static void together() {
        due.says(11, "1 not all WITHIN, 2 not FREE, 4 not FLAT, together");
        for (int want = 0; want <= 7; want++) {
            SeamCell x = (want & FLAT) != 0 ? withSeam(0, 0, 1, 2) : withSeam(0, 0, 2, 1);
            if ((want & REACH) == 0) x.table(0, 100);
            if ((want & FREE) != 0) x.bar(-300, -300, 300, 300);
            due.is(want, x.lacks(0, 0), "lacks(0, 0)");
        }
    }

    private static void within() {
        due.says(11, "from the square of a less b to that of a and b together");
        int[][] inner = {{30, 40, 0}, {29, 40, 1}, {30, 39, 1}, {-48, 14, 0}, {-47, 14, 1}, {0, -50, 0},
            {0, -49, 1}, {50, 0, 0}, {49, 0, 1}};
        for (int[] p : inner) {
            // Away from the arm, so that the end that is looked at is the nearest place.
            int ox = p[0] + (int) Math.signum(p[0]) * 20, oy = p[1] + (int) Math.signum(p[1]) * 20;
            due.is(p[2], withSeam(p[0], p[1], ox, oy).lacks(0, 0) & REACH, "lacks from " + p[0] + ", " + p[1]);
            due.is(p[2], withSeam(ox, oy, p[0], p[1]).lacks(0, 0) & REACH, "lacks to " + p[0] + ", " + p[1]);
        }
        int[][] outer = {{42, 56, 0}, {43, 56, 1}, {42, 57, 1}, {-70, 0, 0}, {-71, 0, 1}, {0, -70, 0}, {0, -71, 1}};
        for (int[] p : outer) {
            int ox = p[0] / 2, oy = p[1] / 2;
            SeamCell from = withSeam(p[0], p[1], ox, oy), to = withSeam(ox, oy, p[0], p[1]);
            from.arm(35, 35);
            to.arm(35, 35);
            due.is(p[2], from.lacks(0, 0) & REACH, "lacks from " + p[0] + ", " + p[1]);
            due.is(p[2], to.lacks(0, 0) & REACH, "lacks to " + p[0] + ", " + p[1]);
        }
    }

    private static void withinBetween() {
        due.says(11, "all its places are WITHIN");
        due.is(0, withSeam(-60, 50, 60, 50).lacks(0, 0), "lacks: touches the inner circle");
        due.is(REACH, withSeam(-60, 49, 60, 49).lacks(0, 0), "lacks: too near between the ends");
        due.is(0, withSeam(10, 55, 50, 25).lacks(0, 0), "lacks: slanting, touches the inner circle at 30, 40");
        due.is(REACH, withSeam(9, 55, 49, 25).lacks(0, 0), "lacks: slanting, a bit nearer");
        due.is(0, withSeam(50, 25, 30, 40).lacks(0, 0), "lacks: touches with its last end");
        due.is(0, withSeam(30, 40, 10, 55).lacks(0, 0), "lacks: touches with its first end");
        due.is(REACH, withSeam(-60, 0, 60, 0).lacks(0, 0), "lacks: across the arm");
        chords();
        SeamCell x = withSeam(-70, 0, 70, 0);
        x.arm(35, 35);
        due.is(0, x.lacks(0, 0), "lacks: across the arm, with LINKS alike");
        x.arm(36, 35);
        due.is(REACH, x.lacks(0, 0), "lacks: across the arm, with LINKS unlike by 1");
    }

    /** From place to place of the inner circle: between them every line is nearer to the arm. */
    private static void chords() {
        int[][] places = {{3, 4}, {4, 3}, {5, 0}, {4, -3}, {3, -4}, {0, -5}, {-3, -4}, {-4, -3}, {-5, 0}, {-4, 3}, {-3, 4},
            {0, 5}};
        for (int[] p : places) {
            for (int[] q : places) {
                if (p == q) continue;
                SeamCell x = withSeam(p[0], p[1], q[0], q[1]);
                x.arm(15, 10);
                due.is(REACH, x.lacks(0, 0) & REACH, "lacks: within the circle between its ends");
                x.clear(0);
                x.seam(p[0], p[1], 2 * p[0] - p[1], 2 * p[1] + p[0], 1, 0);
                due.is(0, x.lacks(0, 0) & REACH, "lacks: away from the circle, slanting");
                x.clear(0);
                x.seam(2 * p[0] + p[1], 2 * p[1] - p[0], p[0], p[1], 1, 0);
                due.is(0, x.lacks(0, 0) & REACH, "lacks: up to the circle, slanting");
                x.clear(0);
                x.seam(p[0] - p[1], p[1] + p[0], p[0] + p[1], p[1] - p[0], 1, 0);
                due.is(0, x.lacks(0, 0) & REACH, "lacks: touches the circle, slanting");
                x.arm(16, 10);
                due.is(REACH, x.lacks(0, 0) & REACH, "lacks: the circle is greater");
            }
        }
    }

    private static void barred() {
        due.says(11, "FREE, if no inner point of a BAR lies on it");
        SeamCell x = withSeam(-10, 0, 10, 0);
        x.table(0, 200);
        x.bar(10, 190, 20, 210);
        due.is(0, x.lacks(0, 0), "lacks: ends at a side");
        x.bar(-5, 200, 5, 201);
        due.is(0, x.lacks(0, 0), "lacks: along a side");
        x.bar(9, 199, 30, 201);
        due.is(FREE, x.lacks(0, 0), "lacks: ends inside");
        x.clear(1);
        x.bar(-1, 199, 1, 201);
        due.is(FREE, x.lacks(0, 0), "lacks: goes across");
        x.table(0, 199);
        due.is(0, x.lacks(0, 0), "lacks: beside it");
        x.table(0, 200);
        x.touch(1, 0, 1, 0);
        x.shift();
        due.is(0, x.lacks(0, 0), "lacks: shifted beside it");
    }

    private static void flat() {
        due.says(11, "the size of its difference in y times 100 is not above FLATNESS times that in x");
        int[][] lines = {{20, 5, 25, 0}, {20, 6, 29, FLAT}, {-20, 5, 25, 0}, {20, -5, 25, 0}, {-20, -5, 25, 0},
            {-20, -6, 29, FLAT}, {20, -6, 29, FLAT}, {-20, 6, 29, FLAT}, {3, 1, 33, FLAT}, {3, 1, 34, 0},
            {1, 0, 0, 0}, {0, 1, 1000, FLAT}, {0, -1, 1000, FLAT}, {1, 10, 1000, 0}, {1, 11, 1000, FLAT}};
        for (int[] l : lines) {
            SeamCell x = withSeam(0, 0, l[0], l[1]);
            x.rules(l[2], 0);
            due.is(l[3], x.lacks(0, 0) & FLAT, "lacks: " + l[1] + " in " + l[0] + " at FLATNESS " + l[2]);
        }
    }

    private static void flatTurned() {
        due.says(11, "A SEAM is GOOD at a QUARTER, if there it is FLAT");
        SeamCell x = withSeam(0, 0, 20, 6);
        x.rules(30, 0);
        int[] want = {0, FLAT, 0, FLAT};
        for (int q = 0; q < 4; q++) due.is(want[q], x.lacks(0, q) & FLAT, "lacks(0, " + q + ")");
        x.rules(400, 0);
        for (int q = 0; q < 4; q++) due.is(0, x.lacks(0, q) & FLAT, "lacks(0, " + q + ")");
        x.rules(29, 0);
        for (int q = 0; q < 4; q++) due.is(FLAT, x.lacks(0, q) & FLAT, "lacks(0, " + q + ")");
    }

    // ---- promise 12

    private static void nearEdges() {
        due.says(12, "UNKNOWN");
        due.range(0, 0, UNKNOWN, "near(n, 0) of one seam", n -> withSeam(0, 0, 1, 0).near(n, 0));
        due.range(0, 0, UNKNOWN, "near(0, n) of one seam", n -> withSeam(0, 0, 1, 0).near(0, n));
        due.is(UNKNOWN, new SeamCell().near(0, 0), "near(0, 0) without seams");
        nearByEnds();
        due.says(12, "is not above that of GAP");
        int[][] gaps = {{0, 0, 0, 1}, {1, 0, 0, 0}, {1, 0, 1, 1}, {1, 1, 1, 0}, {3, 4, 5, 1}, {3, 4, 4, 0},
            {4, 4, 5, 0}, {-3, -4, 5, 1}, {0, 5, 5, 1}, {0, 6, 5, 0}, {-1, 0, 0, 0}};
        for (int[] g : gaps) {
            SeamCell x = withSeam(-90, 0, 0, 0);
            x.seam(g[0], g[1], 80, 80, 1, 0);
            x.rules(0, g[2]);
            due.is(g[3], x.near(0, 1), "near: " + g[0] + ", " + g[1] + " off, GAP " + g[2]);
            due.is(g[3], x.near(1, 0), "near, changed about");
        }
        nearOnThePart();
    }

    private static void nearByEnds() {
        due.says(12, "of some end of the one to some end of the other");
        int[][] other = {{-50, 20, -80, 90}, {-80, 90, -50, 20}, {50, -20, 80, 90}, {80, 90, 50, -20}};
        for (int[] o : other) {
            SeamCell x = withSeam(-50, 0, 50, 0);
            x.seam(o[0], o[1], o[2], o[3], 1, 0);
            due.is(1, x.near(0, 1), "near(0, 1)");
            due.is(1, x.near(1, 0), "near(1, 0)");
            x.rules(0, 19);
            due.is(0, x.near(0, 1), "near(0, 1) with GAP 19");
            due.is(0, x.near(1, 0), "near(1, 0) with GAP 19");
        }
        SeamCell x = withSeam(-50, 0, 50, 0);
        x.seam(0, -50, 0, 50, 1, 0);
        due.is(0, x.near(0, 1), "near(0, 1): they cross, but not at their ends");
        due.is(1, x.near(0, 0), "near(0, 0)");
    }

    private static void nearOnThePart() {
        due.says(12, "(on THE PART)");
        SeamCell x = withSeam(0, 0, 10, 0);
        x.seam(30, 0, 30, 10, 1, 0);
        x.seam(10, 21, 90, 21, 1, 0);
        x.table(0, 200);
        due.is(0, x.about(0, 3), "about(0, 3)");
        due.is(1, x.about(1, 3), "about(1, 3)");
        due.is(1, x.near(0, 1), "near(0, 1), though they are far apart at their quarters");
        due.is(0, x.near(0, 2), "near(0, 2)");
        x.table(0, 0);
        due.is(1, x.near(0, 1), "near(0, 1) without quarters");
    }

    // ---- promise 13

    private static void freeEdges() {
        due.says(13, "a straight line in the cell (-1000 to 1000)");
        due.range(-1000, 1000, OUTSIDE, "free(n, 0, 0, 0)", n -> new SeamCell().free(n, 0, 0, 0));
        due.range(-1000, 1000, OUTSIDE, "free(0, n, 0, 0)", n -> new SeamCell().free(0, n, 0, 0));
        due.range(-1000, 1000, OUTSIDE, "free(0, 0, n, 0)", n -> new SeamCell().free(0, 0, n, 0));
        due.range(-1000, 1000, OUTSIDE, "free(0, 0, 0, n)", n -> new SeamCell().free(0, 0, 0, n));
        due.says(13, "FREE, if no inner point of a BAR lies on it: sides and corners");
        lines(1, new int[][] {{0, -5, 0, 30}, {10, -5, 10, 30}, {-5, 0, 15, 0}, {-5, 20, 15, 20}, {0, 0, 10, 0},
            {0, 0, 0, 20}, {10, 0, 10, 20}, {0, 20, 10, 20}, {-5, 5, 0, 5}, {15, 5, 10, 5}, {5, -5, 5, 0},
            {5, 25, 5, 20}, {-5, 5, 5, -5}, {5, 25, -5, 15}, {5, 25, 15, 15}, {15, 5, 5, -5}, {-1, -1, 0, 0}});
        due.says(13, "FREE, if no inner point of a BAR lies on it: across and into it");
        lines(0, new int[][] {{1, -5, 1, 30}, {9, -5, 9, 30}, {-5, 1, 15, 1}, {-5, 19, 15, 19}, {0, 0, 10, 20},
            {0, 20, 10, 0}, {-5, 5, 1, 5}, {15, 5, 9, 5}, {5, -5, 5, 1}, {5, 25, 5, 19}, {-4, 5, 5, -4}, {5, 24, -4, 15},
            {5, 24, 14, 15}, {14, 5, 5, -4}, {-1, -1, 1, 1}, {2, 2, 8, 18}, {0, 10, 10, 10}, {5, 0, 5, 20}});
        due.says(13, "FREE, if no inner point of a BAR lies on it: a line that is one place");
        lines(1, new int[][] {{0, 0, 0, 0}, {10, 20, 10, 20}, {0, 10, 0, 10}, {10, 10, 10, 10}, {5, 0, 5, 0},
            {5, 20, 5, 20}, {11, 10, 11, 10}, {5, 21, 5, 21}});
        lines(0, new int[][] {{1, 1, 1, 1}, {9, 19, 9, 19}, {1, 19, 1, 19}, {5, 10, 5, 10}});
        eachBar();
        longLines();
    }

    private static void lines(int want, int[][] lines) {
        SeamCell x = new SeamCell();
        x.bar(0, 0, 10, 20);
        for (int[] l : lines) {
            String line = java.util.Arrays.toString(l);
            due.is(want, x.free(l[0], l[1], l[2], l[3]), "free " + line);
            due.is(want, x.free(l[2], l[3], l[0], l[1]), "free backwards " + line);
        }
    }

    private static void eachBar() {
        due.says(13, "no inner point of a BAR");
        SeamCell x = new SeamCell();
        for (int k = 0; k < 4; k++) {
            due.is(1, x.free(20 * k, 5, 20 * k + 10, 5), "free ahead of bar " + k);
            x.bar(20 * k, 0, 20 * k + 10, 10);
            for (int j = 0; j <= k; j++) due.is(0, x.free(20 * j, 5, 20 * j + 10, 5), "free through bar " + j);
            due.is(1, x.free(20 * k + 10, 5, 20 * k + 20, 5), "free from bar " + k + " on");
        }
        x.clear(1);
        x.bar(0, 0, 10, 10);
        x.bar(10, 0, 20, 10);
        due.is(1, x.free(10, -10, 10, 30), "free between two bars that touch");
        due.is(0, x.free(10, -10, 11, 30), "free slanting into the second");
        due.is(0, x.free(10, -10, 9, 30), "free slanting into the first");
    }

    /** The longest lines there are, by a hair beside a corner. */
    private static void longLines() {
        due.says(13, "(-1000 to 1000)");
        SeamCell x = new SeamCell();
        x.bar(-400, -400, -399, -399);
        x.bar(399, 399, 400, 400);
        due.is(0, x.free(-1000, -1000, 1000, 1000), "free: through both");
        due.is(1, x.free(-1000, 1000, 1000, -1000), "free: the other way");
        x.clear(1);
        x.bar(0, -400, 400, 0);
        due.is(1, x.free(-1000, -1000, 1000, 1000), "free: at the corner");
        due.is(0, x.free(-1000, -1000, 1000, 999), "free: a hair into it");
        due.is(0, x.free(-999, -1000, 1000, 1000), "free: a hair into it");
        due.is(1, x.free(-1000, -999, 1000, 1000), "free: a hair beside it");
        due.is(1, x.free(-1000, -1000, 999, 1000), "free: a hair beside it");
    }
}
