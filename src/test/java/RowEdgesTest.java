/** Promises 14 to 17: each sentence that names an edge has a test of its own. */
public final class RowEdgesTest {
    private static final Due due = new Due();
    private static final int UNKNOWN = SeamCell.UNKNOWN, OUTSIDE = SeamCell.OUTSIDE, STATE = SeamCell.STATE;
    private static final int FULL = SeamCell.FULL, NO = SeamCell.NO;
    private static final int SEAM = 0, WAY = 1, BEGIN = 2, END = 3, RESTED = 4;

    public static void main(String[] args) {
        addEdges();
        rowEdges();
        turnEdges();
        goEdges();
        restEdges();
        totalEdges();
        bestEdges();
        due.end();
    }

    /** One tick for each step of the torch, nothing else costs; the table's middle is home. */
    private static SeamCell plain() {
        SeamCell x = new SeamCell();
        x.table(0, 150);
        x.home(0, 150);
        x.times(0, 1, 0, 1);
        x.rules(100, 0);
        return x;
    }

    /** So many seams of 10 ticks, one above the other, each good at quarter 0. */
    private static SeamCell withSeams(int count) {
        SeamCell x = plain();
        for (int k = 0; k < count; k++) x.seam(0, k, 10, k, 1, 0);
        return x;
    }

    private static void rowIs(SeamCell x, int... steps) {
        due.is(steps.length / 2, x.told(5), "told(5)");
        for (int k = 0; k < steps.length / 2; k++) {
            due.is(steps[2 * k], x.row(k, SEAM), "row(" + k + ", 0)");
            due.is(steps[2 * k + 1], x.row(k, WAY), "row(" + k + ", 1)");
        }
    }

    private static void timesAre(SeamCell x, int k, int begin, int end, int rested) {
        due.is(begin, x.row(k, BEGIN), "row(" + k + ", 2)");
        due.is(end, x.row(k, END), "row(" + k + ", 3)");
        due.is(rested, x.row(k, RESTED), "row(" + k + ", 4)");
    }

    // ---- promise 14

    private static void addEdges() {
        due.says(14, "UNKNOWN");
        due.range(0, 2, UNKNOWN, "add(n, 0) of three seams", n -> withSeams(3).add(n, 0));
        due.is(UNKNOWN, new SeamCell().add(0, 0), "add(0, 0) without seams");
        due.says(14, "OUTSIDE: way");
        due.range(0, 1, OUTSIDE, "add(0, n)", n -> withSeams(1).add(0, n));
        addTwice();
        addWithoutQuarter();
        addOrder();
        addAll();
    }

    private static void addTwice() {
        due.says(14, "STATE: it is there");
        SeamCell x = withSeams(3);
        due.is(1, x.add(1, 0), "add(1, 0)");
        due.is(STATE, x.add(1, 0), "add(1, 0) once more");
        due.is(STATE, x.add(1, 1), "add(1, 1): the other way");
        rowIs(x, 1, 0);
        due.is(2, x.add(2, 1), "add(2, 1)");
        due.is(STATE, x.add(1, 0), "add(1, 0): it is not the last");
        due.is(STATE, x.add(2, 0), "add(2, 0): it is the last");
        rowIs(x, 1, 0, 2, 1);
        x.clear(4);
        due.is(1, x.add(1, 1), "add(1, 1) behind clear(4)");
        rowIs(x, 1, 1);
    }

    private static void addWithoutQuarter() {
        due.says(14, "NO: it has no QUARTER");
        SeamCell x = withSeams(2);
        x.add(0, 0);
        x.seam(0, 0, 100, 100, 1, 0);
        x.rules(99, 0);
        due.is(NO, x.add(2, 0), "add(2, 0)");
        due.is(1, x.told(5), "told(5)");
        due.is(2, x.add(1, 0), "add(1, 0) has one");
        x.rules(100, 0);
        due.is(3, x.add(2, 0), "add(2, 0) has one now");
        SeamCell y = withSeams(2);
        y.add(0, 0);
        y.bar(4, 149, 5, 151);
        y.bar(-5, 149, -4, 151);
        due.is(SeamCell.NONE, y.about(0, 3), "about(0, 3)");
        due.is(2, y.add(1, 0), "add(1, 0): a seam of the row has no bearing on it");
    }

    private static void addOrder() {
        due.says(14, "the first of these that fits: UNKNOWN, OUTSIDE, STATE, NO");
        SeamCell x = withSeams(2);
        x.add(0, 0);
        x.table(0, 0);
        due.is(UNKNOWN, x.add(2, 2), "add(2, 2)");
        due.is(UNKNOWN, x.add(-1, -1), "add(-1, -1)");
        due.is(OUTSIDE, x.add(0, 2), "add(0, 2): it is there, too");
        due.is(OUTSIDE, x.add(1, -1), "add(1, -1): it has no QUARTER, too");
        due.is(STATE, x.add(0, 1), "add(0, 1): it has no QUARTER, too");
        due.is(NO, x.add(1, 1), "add(1, 1)");
        due.is(1, x.told(5), "told(5)");
        x.table(0, 150);
        rowIs(x, 0, 0);
    }

    private static void addAll() {
        due.says(14, "A SEAM behind the ROW: how many it has");
        SeamCell x = withSeams(8);
        for (int k = 0; k < 8; k++) due.is(k + 1, x.add(7 - k, k % 2), "add " + k);
        rowIs(x, 7, 0, 6, 1, 5, 0, 4, 1, 3, 0, 2, 1, 1, 0, 0, 1);
        for (int s = 0; s < 8; s++) due.is(STATE, x.add(s, 0), "add(" + s + ", 0)");
        due.is(8, x.told(5), "told(5)");
    }

    // ---- promise 15

    private static SeamCell rowOfTwo() {
        SeamCell x = withSeams(3);
        x.add(2, 1);
        x.add(0, 0);
        return x;
    }

    private static void rowEdges() {
        due.says(15, "UNKNOWN");
        due.range(0, 1, UNKNOWN, "row(n, 0) of two", n -> rowOfTwo().row(n, 0));
        due.is(UNKNOWN, withSeams(3).row(0, 0), "row(0, 0) of an empty row");
        due.is(UNKNOWN, new SeamCell().row(0, 0), "row(0, 0) without seams");
        due.says(15, "OUTSIDE");
        due.range(0, 4, OUTSIDE, "row(0, n)", n -> rowOfTwo().row(0, n));
        due.says(15, "0 SEAM, 1 way, 2 BEGIN, 3 END, 4 how long it rested");
        SeamCell x = rowOfTwo();
        rowIs(x, 2, 1, 0, 0);
        timesAre(x, 0, 10, 20, 0);
        timesAre(x, 1, 22, 32, 0);
        rowOrder();
        rowWithoutQuarter();
        rowNow();
    }

    private static void rowOrder() {
        due.says(15, "the first of these that fits: UNKNOWN, OUTSIDE, NO");
        SeamCell x = rowOfTwo();
        due.is(UNKNOWN, x.row(2, 5), "row(2, 5)");
        due.is(UNKNOWN, x.row(-1, -1), "row(-1, -1)");
        x.table(0, 0);
        due.is(UNKNOWN, x.row(2, 0), "row(2, 0): there is no QUARTER, too");
        due.is(OUTSIDE, x.row(0, 5), "row(0, 5): there is no QUARTER, too");
        due.is(OUTSIDE, x.row(1, -1), "row(1, -1): there is no QUARTER, too");
        due.is(UNKNOWN, x.row(2, 5), "row(2, 5): all three");
        due.is(NO, x.row(1, 4), "row(1, 4)");
    }

    private static void rowWithoutQuarter() {
        due.says(15, "NO: a SEAM of the ROW has no QUARTER now");
        for (int bad = 0; bad < 3; bad++) {
            SeamCell x = plain();
            for (int s = 0; s < 3; s++) x.seam(0, 10 * s, 10, s == bad ? 10 * s + 5 : 10 * s, 1, 0);
            for (int s = 0; s < 3; s++) x.add(s, 0);
            x.rules(50, 0);
            due.is(2, x.row(2, SEAM), "row(2, 0)");
            x.rules(49, 0);
            for (int k = 0; k < 3; k++) {
                for (int what = 0; what <= 4; what++) {
                    due.is(NO, x.row(k, what), "row(" + k + ", " + what + ") with seam " + bad + " too steep");
                }
            }
            due.is(3, x.told(5), "told(5): the row is still there");
            x.rules(50, 0);
            rowIs(x, 0, 0, 1, 0, 2, 0);
        }
        SeamCell x = rowOfTwo();
        x.bar(4, 150, 5, 152);
        x.bar(-5, 148, -4, 150);
        due.is(SeamCell.NONE, x.about(1, 3), "about(1, 3)");
        due.is(0, x.row(1, SEAM), "row(1, 0): seam 1 is not in the row");
    }

    private static void rowNow() {
        due.says(15, "as all is told now");
        SeamCell x = plain();
        x.seam(20, 0, 30, 0, 1, 30);
        x.seam(30, 0, 40, 0, 1, 0);
        x.add(0, 0);
        x.add(1, 0);
        timesAre(x, 1, 20 + 10 + 30, 70, 30);
        x.times(0, 1, 0, 7);
        timesAre(x, 1, 30 + 4, 44, 4);
        x.times(0, 3, 0, 7);
        timesAre(x, 0, 7, 17, 0);
        x.home(5, 150);
        timesAre(x, 0, 5, 15, 0);
        x.bar(10, 140, 11, 160);
        x.times(0, 3, 2, 7);
        timesAre(x, 0, 5 + 4, 19, 0);
        x.bar(22, 140, 23, 160);
        x.bar(32, 140, 33, 160);
        x.times(6, 100, 0, 7);
        timesAre(x, 0, 12 + 1, 23, 0);
        x.table(0, 170);
        timesAre(x, 0, 1, 11, 0);
    }

    private static void turnEdges() {
        due.says(15, "from QUARTER 0; one way or the other, the fewest quarters, TURN ticks a quarter");
        int[][] turns = {{0, 1, 2, 1}, {1, 0, 1, 2}, {2, 1, 0, 1}, {1, 2, 1, 0}};
        for (int from = 0; from < 4; from++) {
            for (int to = 0; to < 4; to++) {
                SeamCell x = quartered(from, to);
                due.is(from, x.about(0, 3), "about(0, 3)");
                due.is(to, x.about(1, 3), "about(1, 3)");
                x.times(7, 100, 0, 1);
                x.add(0, 0);
                x.add(1, 0);
                due.is(7 * turns[0][from] + 1, x.row(0, BEGIN), "row(0, 2) to quarter " + from);
                int end = 7 * turns[0][from] + 2;
                due.is(end + 7 * turns[from][to] + 1, x.row(1, BEGIN), "row(1, 2) from " + from + " to " + to);
                x.times(0, 100, 0, 1);
                due.is(3, x.row(1, BEGIN), "row(1, 2) with TURN 0");
            }
        }
    }

    /** Two seams, each of them within reach at one quarter alone. */
    private static SeamCell quartered(int first, int second) {
        SeamCell x = new SeamCell();
        x.table(0, 170);
        x.home(0, 100);
        x.rules(1000, 0);
        int[][] low = {{-10, -100, 10, -98}, {-100, 10, -98, -10}, {10, 100, -10, 98}, {100, -10, 98, 10}};
        for (int q : new int[] {first, second}) x.seam(low[q][0], low[q][1], low[q][2], low[q][3], 50, 0);
        x.arm(40, 40);
        return x;
    }

    private static void goEdges() {
        due.says(15, "the greater of both differences UP by TRAVEL");
        int[][] ways = {{0, 0, 5, 0}, {1, 0, 5, 1}, {5, 0, 5, 1}, {6, 0, 5, 2}, {-5, 3, 5, 1}, {3, -6, 5, 2},
            {4, 4, 5, 1}, {-99, 100, 100, 1}, {100, 0, 99, 2}, {0, -100, 1, 100}, {100, -99, 50, 2}, {-100, 99, 49, 3}};
        for (int[] w : ways) {
            SeamCell x = plain();
            x.seam(0, 0, 10, 0, 10, 0);
            x.add(0, 0);
            x.home(w[0], 150 + w[1]);
            x.times(0, w[2], 50, 1);
            due.is(w[3], x.row(0, BEGIN), "row(0, 2) from " + w[0] + ", " + w[1] + " at TRAVEL " + w[2]);
        }
        whereItEnds();
        lifts();
    }

    private static void whereItEnds() {
        due.says(15, "each from its first end on (0) or from its last one (1); from where it is in the cell");
        int[][] want = {{20, 30}, {30, 20}};
        for (int first = 0; first < 2; first++) {
            for (int second = 0; second < 2; second++) {
                SeamCell x = plain();
                x.seam(20, 0, 30, 0, 10, 0);
                x.seam(-40, 0, -60, 0, 20, 0);
                x.add(0, first);
                x.add(1, second);
                due.is(want[first][0], x.row(0, BEGIN), "row(0, 2)");
                int from = want[first][1], to = second == 0 ? -40 : -60;
                due.is(want[first][0] + 1 + from - to, x.row(1, BEGIN), "row(1, 2)");
            }
        }
        slanting();
        due.says(15, "it does not turn with THE TABLE");
        SeamCell x = plain();
        x.seam(0, 0, 30, 0, 30, 0);
        x.seam(0, -30, 0, -60, 30, 0);
        x.rules(0, 0);
        x.add(0, 0);
        x.add(1, 0);
        due.is(1, x.about(1, 3), "about(1, 3)");
        due.is(1 + 0, x.row(1, BEGIN), "row(1, 2): the table brings its end to the torch");
    }

    /** Up and down is farther than to and fro, so that y of both ends shows. */
    private static void slanting() {
        for (int first = 0; first < 2; first++) {
            for (int second = 0; second < 2; second++) {
                SeamCell x = plain();
                x.seam(0, 10, 10, 20, 15, 0);
                x.seam(0, 70, 10, 80, 15, 0);
                x.add(0, first);
                x.add(1, second);
                int begin = first == 0 ? 10 : 20, from = first == 0 ? 20 : 10, to = second == 0 ? 70 : 80;
                due.is(begin, x.row(0, BEGIN), "row(0, 2)");
                due.is(begin + 1 + to - from, x.row(1, BEGIN), "row(1, 2)");
            }
        }
    }

    private static void lifts() {
        due.says(15, "and twice LIFT, if the straight line is not FREE");
        SeamCell x = plain();
        x.seam(0, 0, 10, 0, 10, 0);
        x.add(0, 0);
        x.home(-20, 150);
        x.times(0, 1, 50, 1);
        x.bar(-15, 150, -5, 160);
        due.is(20, x.row(0, BEGIN), "row(0, 2) along a bar");
        x.bar(-15, 140, -5, 150);
        due.is(20, x.row(0, BEGIN), "row(0, 2) between two bars");
        x.bar(-15, 149, -14, 151);
        due.is(20 + 100, x.row(0, BEGIN), "row(0, 2) across a bar");
        x.bar(-12, 149, -11, 151);
        due.is(20 + 100, x.row(0, BEGIN), "row(0, 2) across two bars");
        x.times(0, 1, 0, 1);
        due.is(20, x.row(0, BEGIN), "row(0, 2) with LIFT 0");
        x.times(0, 1, 1, 1);
        due.is(20 + 2, x.row(0, BEGIN), "row(0, 2) with LIFT 1");
        x.clear(1);
        x.home(-20, 160);
        x.bar(-21, 159, -19, 161);
        due.is(20 + 2, x.row(0, BEGIN), "row(0, 2) from inside a bar");
        x.home(0, 150);
        due.is(0, x.row(0, BEGIN), "row(0, 2) on the spot");
        slantingLifts();
    }

    private static void slantingLifts() {
        SeamCell x = plain();
        x.seam(0, 0, 10, 0, 10, 0);
        x.add(0, 0);
        x.home(-20, 170);
        x.times(0, 1, 4, 1);
        int[][] bars = {{-11, 159, -9, 161, 28}, {-10, 160, -9, 161, 20}, {-10, 161, -9, 162, 20}, {-20, 169, -19, 170, 28},
            {-10, 150, -9, 170, 28}, {-1, 150, 0, 151, 28}, {-20, 149, 0, 150, 20}, {-20, 171, 0, 172, 20}, {-20, 151, -19, 169, 20}};
        for (int[] b : bars) {
            x.clear(1);
            x.bar(b[0], b[1], b[2], b[3]);
            due.is(b[4], x.row(0, BEGIN), "row(0, 2) slanting by a bar at " + b[0] + ", " + b[1]);
        }
    }

    // ---- promise 15, heat

    /** Seam 0 ends after a tick where seam 1 begins, which is 10 long. */
    private static SeamCell heated(int heat, int cool, int way) {
        SeamCell x = plain();
        x.seam(-10, 0, 0, 0, 10, heat);
        x.seam(0, 0, 10, 0, 10, 1000);
        x.home(-10, 150);
        x.times(0, 1, 0, cool);
        x.add(0, 0);
        x.add(1, way);
        return x;
    }

    private static void restEdges() {
        due.says(15, "HEAT of that by COOL (by: cut down)");
        int[][] heats = {{0, 1, 0}, {1, 1, 1}, {9, 10, 0}, {10, 10, 1}, {19, 10, 1}, {20, 10, 2}, {1000, 1, 1000},
            {1000, 100, 10}, {999, 100, 9}, {99, 100, 0}, {100, 100, 1}};
        for (int[] h : heats) {
            SeamCell x = heated(h[0], h[1], 0);
            timesAre(x, 0, 0, 1, 0);
            timesAre(x, 1, 1 + h[2], 2 + h[2], h[2]);
        }
        due.says(15, "BEGIN less when it could have begun without HEAT");
        timesAre(heated(9, 1, 1), 1, 11, 12, 0);
        timesAre(heated(10, 1, 1), 1, 11, 12, 0);
        timesAre(heated(11, 1, 1), 1, 12, 13, 1);
        nearOnly();
        eachAhead();
        latestOfSeveral();
    }

    private static void nearOnly() {
        due.says(15, "each one ahead of it that is NEAR");
        SeamCell x = heated(500, 1, 0);
        x.clear(0);
        x.seam(-10, 0, 0, 0, 10, 500);
        x.seam(3, 4, 13, 4, 10, 0);
        x.add(0, 0);
        x.add(1, 0);
        x.rules(100, 4);
        timesAre(x, 1, 1 + 4, 6, 0);
        x.rules(100, 5);
        timesAre(x, 1, 1 + 500, 502, 496);
        x.clear(4);
        x.add(1, 0);
        x.add(0, 0);
        due.is(0, x.row(0, RESTED), "row(0, 4): the hot one is behind it");
        due.is(0, x.row(1, RESTED), "row(1, 4): the one ahead is cold");
    }

    private static void eachAhead() {
        due.says(15, "each one ahead of it, not the last one alone");
        SeamCell x = plain();
        x.seam(0, 0, 10, 0, 10, 60);
        x.seam(50, 0, 40, 0, 10, 0);
        x.seam(0, 0, -10, 0, 10, 0);
        for (int s = 0; s < 3; s++) x.add(s, 0);
        timesAre(x, 0, 0, 1, 0);
        timesAre(x, 1, 41, 42, 0);
        timesAre(x, 2, 82, 83, 0);
        x.clear(0);
        x.seam(0, 0, 10, 0, 10, 90);
        x.seam(50, 0, 40, 0, 10, 0);
        x.seam(0, 0, -10, 0, 10, 0);
        for (int s = 0; s < 3; s++) x.add(s, 0);
        timesAre(x, 2, 91, 92, 9);
    }

    private static void latestOfSeveral() {
        due.says(15, "not before the END of each one ahead of it that is NEAR and HEAT of that");
        int[][] heats = {{100, 10, 101}, {10, 100, 103}, {50, 48, 51}, {51, 48, 52}, {50, 49, 52}, {0, 0, 3}};
        for (int[] h : heats) {
            SeamCell x = plain();
            x.times(0, 100, 0, 1);
            x.home(-10, 150);
            x.seam(-10, 0, 0, 0, 10, h[0]);
            x.seam(30, 0, 20, 0, 10, h[1]);
            x.seam(0, 0, 20, 0, 20, 0);
            x.add(0, 0);
            x.add(1, 0);
            x.add(2, 1);
            timesAre(x, 1, 2, 3, 0);
            timesAre(x, 2, h[2], h[2] + 1, h[2] - 3);
        }
    }

    // ---- promise 16

    private static void totalEdges() {
        due.says(16, "(0: it is empty)");
        due.is(0, new SeamCell().total(), "total() without seams");
        SeamCell x = withSeams(8);
        due.is(0, x.total(), "total() of an empty row");
        x.table(0, 0);
        due.is(0, x.total(), "total() of an empty row, without quarters");
        x.table(0, 150);
        due.says(16, "The END of the ROW's last one");
        x.home(-1, 150);
        for (int k = 0; k < 8; k++) {
            x.add(k, k % 2);
            due.is(11 * (k + 1), x.total(), "total() of " + (k + 1));
            due.is(x.row(k, END), x.total(), "total() as row(" + k + ", 3)");
        }
        due.says(16, "NO, likewise");
        x.table(0, 0);
        due.is(NO, x.total(), "total()");
        due.is(8, x.told(5), "told(5)");
        x.table(0, 150);
        due.is(88, x.total(), "total()");
        x.clear(4);
        due.is(0, x.total(), "total() behind clear(4)");
        oneWithoutQuarter();
    }

    private static void oneWithoutQuarter() {
        for (int bad = 0; bad < 3; bad++) {
            SeamCell x = plain();
            for (int s = 0; s < 3; s++) x.seam(0, 10 * s, 10, s == bad ? 10 * s + 5 : 10 * s, 1, 0);
            for (int s = 0; s < 3; s++) x.add(s, 0);
            x.rules(49, 0);
            due.is(NO, x.total(), "total() with seam " + bad + " too steep");
        }
        SeamCell y = withSeams(2);
        y.add(0, 0);
        y.seam(0, 0, 1, 1, 1, 0);
        y.rules(99, 0);
        due.is(10, y.total(), "total(): a seam beside the row has no QUARTER");
    }

    // ---- promise 17

    private static void bestEdges() {
        bestOfNone();
        bestOfOne();
        mostSeams();
        bestWithoutQuarter();
        bestOrder();
        leastEnd();
        lesserSeam();
        lesserWay();
        firstDifference();
        notTheNearestFirst();
        bestOfQuarters();
        bestAnew();
    }

    private static void bestOfNone() {
        due.says(17, "0 without SEAMS");
        SeamCell x = withSeams(0);
        due.is(0, x.best(), "best()");
        due.is(0, x.told(5), "told(5)");
        x.seam(0, 0, 10, 0, 1, 0);
        x.best();
        x.clear(0);
        due.is(0, x.best(), "best() behind clear(0)");
        due.is(0, x.told(5), "told(5)");
        due.is(0, x.total(), "total()");
    }

    private static void bestOfOne() {
        due.says(17, "THE BEST ROW becomes the ROW: its END");
        SeamCell x = withSeams(1);
        due.is(10, x.best(), "best()");
        rowIs(x, 0, 0);
        x.home(6, 150);
        due.is(4 + 10, x.best(), "best()");
        rowIs(x, 0, 1);
        due.is(14, x.total(), "total()");
        x.home(5, 150);
        due.is(5 + 10, x.best(), "best(): both ways are alike");
        rowIs(x, 0, 0);
    }

    private static void mostSeams() {
        due.says(17, "FULL: more than 6 SEAMS");
        SeamCell x = withSeams(6);
        due.is(6 * 10 + 5, x.best(), "best() of 6");
        rowIs(x, 0, 0, 1, 1, 2, 0, 3, 1, 4, 0, 5, 1);
        x.clear(4);
        x.add(3, 1);
        x.seam(0, 6, 10, 6, 1, 0);
        due.is(FULL, x.best(), "best() of 7");
        x.seam(0, 7, 10, 7, 1, 0);
        due.is(FULL, x.best(), "best() of 8");
        rowIs(x, 3, 1);
    }

    private static void bestWithoutQuarter() {
        due.says(17, "NO: a SEAM has no QUARTER");
        for (int bad = 0; bad < 6; bad++) {
            SeamCell x = plain();
            for (int s = 0; s < 6; s++) x.seam(0, 10 * s, 10, s == bad ? 10 * s + 5 : 10 * s, 1, 0);
            x.add(bad == 2 ? 3 : 2, 1);
            x.rules(49, 0);
            due.is(NO, x.best(), "best() with seam " + bad + " too steep");
            rowIs(x, bad == 2 ? 3 : 2, 1);
            x.rules(50, 0);
            due.holds(x.best() > 0, "best() is refused with seam " + bad);
            due.is(6, x.told(5), "told(5)");
        }
    }

    private static void bestOrder() {
        due.says(17, "the first of these that fits: FULL, NO");
        SeamCell x = withSeams(7);
        x.add(0, 0);
        x.table(0, 0);
        due.is(FULL, x.best(), "best() of 7 without quarters");
        x.table(0, 150);
        rowIs(x, 0, 0);
    }

    private static void leastEnd() {
        due.says(17, "has the least END of its last one");
        SeamCell x = plain();
        x.seam(50, 0, 40, 0, 10, 0);
        x.seam(-20, 0, -10, 0, 10, 0);
        x.home(-20, 150);
        due.is(0 + 1 + 50 + 1, x.best(), "best()");
        rowIs(x, 1, 0, 0, 1);
        x.home(60, 150);
        due.is(10 + 1 + 50 + 1, x.best(), "best()");
        rowIs(x, 0, 0, 1, 1);
    }

    private static void lesserSeam() {
        due.says(17, "of several the one that has at the first difference the lesser SEAM");
        SeamCell x = plain();
        x.seam(10, 0, 20, 0, 10, 0);
        x.seam(-10, 0, -20, 0, 10, 0);
        due.is(10 + 1 + 30 + 1, x.best(), "best(): both ways about are alike");
        due.is(0, x.row(0, SEAM), "row(0, 0)");
        x.clear(0);
        x.seam(-10, 0, -20, 0, 10, 0);
        x.seam(10, 0, 20, 0, 10, 0);
        due.is(42, x.best(), "best(): changed about");
        due.is(0, x.row(0, SEAM), "row(0, 0)");
        SeamCell y = withSeams(6);
        y.times(0, 100, 0, 1);
        due.is(0 + 60 + 5, y.best(), "best(): a tick from each to each");
        for (int k = 0; k < 6; k++) due.is(k, y.row(k, SEAM), "row(" + k + ", 0)");
    }

    private static void lesserWay() {
        due.says(17, "then the lesser way");
        SeamCell x = withSeams(6);
        x.times(0, 100, 0, 1);
        x.home(100, 150);
        due.is(1 + 60 + 5, x.best(), "best()");
        rowIs(x, 0, 0, 1, 0, 2, 0, 3, 0, 4, 0, 5, 0);
        SeamCell y = plain();
        y.seam(20, 0, 10, 0, 10, 0);
        y.seam(-10, 0, -20, 0, 10, 0);
        due.is(10 + 1 + 30 + 1, y.best(), "best(): 20 and 20 on are as good as 10 and 30 on");
        rowIs(y, 0, 0, 1, 0);
    }

    /** After seam 0, left as right: the lesser way of it comes ahead of the lesser second seam. */
    private static void firstDifference() {
        due.says(17, "at the first difference the lesser SEAM, then the lesser way");
        SeamCell x = plain();
        x.rules(100, 10);
        x.seam(-10, 0, 10, 0, 20, 0);
        x.seam(-20, 0, -30, 0, 10, 1000);
        x.seam(20, 0, 30, 0, 10, 1000);
        due.is(10 + 1 + 10 + 1 + 50 + 1, x.best(), "best()");
        rowIs(x, 0, 0, 2, 0, 1, 0);
    }

    /** The first step that is dearest by itself belongs to the best row, as heat rests meanwhile. */
    private static void notTheNearestFirst() {
        due.says(17, "THE BEST ROW of all SEAMS");
        SeamCell x = plain();
        x.seam(0, 0, 10, 0, 10, 0);
        x.seam(10, 0, 20, 0, 10, 300);
        x.seam(60, 0, 100, 0, 1, 0);
        due.is(0 + 1 + 0 + 1 + 40 + 40, x.best(), "best(): the hot one behind the cold one");
        rowIs(x, 0, 0, 1, 0, 2, 0);
        x.clear(0);
        x.seam(0, 0, 10, 0, 10, 300);
        x.seam(10, 0, 20, 0, 10, 300);
        x.seam(60, 0, 100, 0, 1, 0);
        due.is(1 + 50 + 40 + 210 + 1, x.best(), "best(): the far one while the first cools");
        due.is(0, x.row(0, SEAM), "row(0, 0)");
        due.is(2, x.row(1, SEAM), "row(1, 0)");
        due.is(1, x.row(2, SEAM), "row(2, 0)");
    }

    private static void bestOfQuarters() {
        due.says(17, "from TIME 0, QUARTER 0 and HOME on");
        int[] turns = {0, 1, 2, 1};
        for (int q = 0; q < 4; q++) {
            SeamCell x = quartered(q, q);
            x.clear(4);
            x.times(9, 100, 0, 1);
            due.is(9 * turns[q] + 1 + 1 + 0 + 1, x.best(), "best() at quarter " + q);
            rowIs(x, 0, 0, 1, 1);
            SeamCell y = quartered(q, (q + 1) % 4);
            y.times(9, 100, 0, 1);
            int least = Math.min(turns[q], turns[(q + 1) % 4]);
            due.is(9 * (least + 1) + 3, y.best(), "best() at quarters " + q + " and the next one");
            due.is(turns[q] == least ? 0 : 1, y.row(0, SEAM), "row(0, 0)");
        }
    }

    /** Nothing of an earlier best() shows in a later one. */
    private static void bestAnew() {
        due.says(17, "THE BEST ROW becomes the ROW");
        SeamCell x = plain();
        x.rules(100, 200);
        for (int s = 0; s < 6; s++) x.seam(0, 10 * s, 10, 10 * s, 10, 1000);
        due.is(6 + 5 * 1000, x.best(), "best(): each rests for the one ahead");
        rowIs(x, 0, 0, 1, 0, 2, 0, 3, 0, 4, 0, 5, 0);
        x.rules(100, 0);
        due.is(6 + 5 * 10, x.best(), "best(): none is near another one");
        rowIs(x, 0, 0, 1, 0, 2, 0, 3, 0, 4, 0, 5, 0);
        x.clear(0);
        x.seam(0, 10, 0, 20, 10, 0);
        x.seam(0, 30, 0, 40, 10, 0);
        x.rules(0, 0);
        x.times(100, 1, 0, 1);
        due.is(100 + 10 + 1 + 10 + 1, x.best(), "best(): others, at quarter 1");
        rowIs(x, 0, 0, 1, 0);
    }
}
