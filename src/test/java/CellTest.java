/** Promises 1 to 13: the cell, its limits, and where a seam lies flat within reach and free. */
public final class CellTest {
    private static final Due due = new Due();
    private static final int MIN = Integer.MIN_VALUE, MAX = Integer.MAX_VALUE;

    public static void main(String[] args) {
        aNewObject();
        table();
        arm();
        rules();
        times();
        home();
        bar();
        seam();
        clear();
        about();
        lacks();
        within();
        flat();
        near();
        free();
        due.end();
    }

    private static void aNewObject() {
        due.promise(1);
        SeamCell x = new SeamCell();
        for (int what = 0; what <= 5; what++) due.is(0, x.told(what), "told(" + what + ")");
        for (int which = 0; which <= 4; which++) due.is(0, x.clear(which), "clear(" + which + ")");
        for (int axis = 0; axis <= 1; axis++) {
            due.is(-20, x.shut(axis, 0), "shut(axis, 0)");
            due.is(20, x.shut(axis, 1), "shut(axis, 1)");
            due.is(0, x.shifted(axis), "shifted(axis)");
        }
        due.is(0, x.total(), "total()");
        due.is(0, x.best(), "best()");
        due.is(1, x.web(), "web()");
        due.is(0, x.lock(-1), "lock(-1)");
        due.is(SeamCell.STATE, x.ran(0), "ran(0)");
        due.is(1, x.free(-1000, -1000, 1000, 1000), "free without bars");
        firstNumbers();
    }

    /** Middle 0, 0; links 200, 150; flatness 100; gap 20; times 10, 20, 5, 10; home 0, 300. */
    private static void firstNumbers() {
        SeamCell x = new SeamCell();
        due.is(0, x.seam(-30, 60, 30, 60, 6, 400), "seam");
        due.is(1, x.seam(-30, 60, -50, 40, 50, 0), "seam");
        due.is(-30, x.about(0, 4), "about(0, 4)");
        due.is(60, x.about(0, 5), "about(0, 5)");
        due.is(0, x.lacks(0, 0), "lacks(0, 0)");
        due.is(0, x.lacks(1, 0), "lacks(1, 0)");
        due.is(1, x.add(0, 0), "add(0, 0)");
        due.is(2, x.add(1, 0), "add(1, 0)");
        due.is(12, x.row(0, 2), "row(0, 2)");
        due.is(22, x.row(0, 3), "row(0, 3)");
        due.is(62, x.row(1, 2), "row(1, 2)");
        due.is(37, x.row(1, 4), "row(1, 4)");
        due.is(63, x.total(), "total()");
        firstReach();
        firstTimes();
    }

    private static void firstReach() {
        SeamCell x = new SeamCell();
        x.seam(0, 50, 10, 50, 1, 0);
        x.seam(0, 49, 10, 49, 1, 0);
        x.seam(80, 10, 70, 10, 1, 0);
        x.seam(80, 11, 70, 11, 1, 0);
        x.seam(-100, -100, 100, 100, 1, 0);
        x.seam(-100, -100, 99, 100, 1, 0);
        due.is(0, x.lacks(0, 0), "lacks(0, 0): 50 is just within");
        due.is(1, x.lacks(1, 0), "lacks(1, 0): 49 is not");
        due.is(0, x.lacks(4, 0) & 4, "lacks(4, 0): 100 in 100");
        due.is(4, x.lacks(5, 0) & 4, "lacks(5, 0): a bit steeper");
        x.table(200, 200);
        due.is(0, x.lacks(2, 0), "lacks(2, 0): 280, 210 is just within");
        due.is(1, x.lacks(3, 0), "lacks(3, 0): 280, 211 is not");
    }

    private static void firstTimes() {
        SeamCell x = new SeamCell();
        x.table(0, 150);
        x.seam(20, 0, 20, 1, 1, 0);
        x.add(0, 1);
        due.is(10 + 7, x.row(0, 2), "row(0, 2): a quarter, then 130 up by 20");
        x.bar(-400, 200, 400, 201);
        due.is(10 + 7 + 10, x.row(0, 2), "row(0, 2): twice 5 more");
        x.clear(1);
        x.clear(4);
        x.seam(-100, -50, -90, -50, 1, 0);
        x.table(-200, 200);
        x.add(1, 0);
        due.is(15, x.row(0, 2), "row(0, 2): 300 from home x to -300, by 20");
        x.clear(4);
        x.add(1, 1);
        due.is(15, x.row(0, 2), "row(0, 2): 290 from home x to -290, up by 20");
        x.table(200, 200);
        x.seam(80, 5, 70, 5, 1, 0);
        x.clear(4);
        x.add(2, 0);
        due.is(14, x.row(0, 2), "row(0, 2): 280 from home x to 280, by 20");
    }

    private static void table() {
        due.promise(2);
        SeamCell x = new SeamCell();
        x.seam(1, 2, 3, 4, 1, 0);
        due.is(1, x.table(-200, 200), "table(-200, 200)");
        due.is(1 - 200, x.about(0, 4), "about(0, 4)");
        due.is(2 + 200, x.about(0, 5), "about(0, 5)");
        int[][] wrong = {{201, 0}, {-201, 0}, {0, 201}, {0, -201}, {MIN, 0}, {0, MAX}};
        for (int[] w : wrong) due.is(SeamCell.OUTSIDE, x.table(w[0], w[1]), "table outside");
        due.is(1 - 200, x.about(0, 4), "about(0, 4) behind refused calls");
        due.is(1, x.table(200, -200), "table(200, -200)");
        due.is(1 + 200, x.about(0, 4), "about(0, 4)");
    }

    private static void arm() {
        due.promise(3);
        SeamCell x = new SeamCell();
        x.table(100, 0);
        x.seam(0, 0, 20, 0, 1, 0);
        due.is(1, x.arm(60, 60), "arm(60, 60)");
        due.is(0, x.lacks(0, 0), "lacks: 120 is just within");
        due.is(1, x.arm(60, 59), "arm(60, 59)");
        due.is(1, x.lacks(0, 0), "lacks: 120 is beyond 119");
        due.is(1, x.arm(10, 110), "arm(10, 110)");
        due.is(0, x.lacks(0, 0), "lacks: 100 is just within");
        due.is(1, x.arm(111, 10), "arm(111, 10)");
        due.is(1, x.lacks(0, 0), "lacks: 100 is nearer than 101");
        int[][] wrong = {{9, 100}, {100, 9}, {301, 100}, {100, 301}, {MIN, 100}, {100, MAX}};
        for (int[] w : wrong) due.is(SeamCell.OUTSIDE, x.arm(w[0], w[1]), "arm outside");
        due.is(1, x.lacks(0, 0), "lacks behind refused calls");
        due.is(1, x.arm(300, 300), "arm(300, 300)");
        due.is(1, x.arm(10, 10), "arm(10, 10)");
    }

    private static void rules() {
        due.promise(4);
        SeamCell x = new SeamCell();
        x.seam(0, 0, 10, 1, 1, 0);
        x.seam(10, 4, 90, 4, 1, 0);
        due.is(1, x.rules(10, 3), "rules(10, 3)");
        due.is(0, x.lacks(0, 0) & 4, "lacks: as steep as may be");
        due.is(1, x.near(0, 1), "near: just at the gap");
        due.is(SeamCell.OUTSIDE, x.rules(-1, 0), "rules(-1, 0)");
        due.is(SeamCell.OUTSIDE, x.rules(1001, 0), "rules(1001, 0)");
        due.is(SeamCell.OUTSIDE, x.rules(0, -1), "rules(0, -1)");
        due.is(SeamCell.OUTSIDE, x.rules(0, 201), "rules(0, 201)");
        due.is(SeamCell.OUTSIDE, x.rules(MIN, MAX), "rules(MIN, MAX)");
        due.is(1, x.near(0, 1), "near behind refused calls");
        due.is(1, x.rules(9, 2), "rules(9, 2)");
        due.is(4, x.lacks(0, 0) & 4, "lacks: a bit too steep");
        due.is(0, x.near(0, 1), "near: just beyond the gap");
        due.is(1, x.rules(0, 0), "rules(0, 0)");
        due.is(1, x.rules(1000, 200), "rules(1000, 200)");
    }

    private static void times() {
        due.promise(5);
        SeamCell x = new SeamCell();
        int[][] wrong = {{-1, 1, 0, 1}, {101, 1, 0, 1}, {0, 0, 0, 1}, {0, 101, 0, 1}, {0, 1, -1, 1},
            {0, 1, 51, 1}, {0, 1, 0, 0}, {0, 1, 0, 101}, {MIN, 1, 0, 1}, {0, MAX, 0, 1}};
        for (int[] w : wrong) {
            due.is(SeamCell.OUTSIDE, x.times(w[0], w[1], w[2], w[3]), "times outside");
        }
        due.is(1, x.times(0, 1, 0, 1), "times(0, 1, 0, 1)");
        due.is(1, x.times(100, 100, 50, 100), "times(100, 100, 50, 100)");
        x.table(0, 150);
        x.bar(-400, 250, 400, 260);
        x.seam(0, -20, 0, 20, 50, 999);
        x.seam(0, 20, 0, -20, 50, 0);
        x.add(0, 0);
        x.add(1, 0);
        due.is(100 + 2 + 100, x.row(0, 2), "row(0, 2): turn, travel, lift");
        due.is(203 + 9, x.row(1, 2), "row(1, 2): 999 by 100");
        due.is(1, x.times(3, 7, 4, 11), "times(3, 7, 4, 11)");
        due.is(3 + 22 + 8, x.row(0, 2), "row(0, 2): 150 up by 7");
        due.is(34 + 90, x.row(1, 2), "row(1, 2): 999 by 11");
    }

    private static void home() {
        due.promise(6);
        SeamCell x = new SeamCell();
        x.times(0, 1, 0, 1);
        x.seam(60, 0, 70, 0, 50, 0);
        x.add(0, 0);
        due.is(1, x.home(-400, 400), "home(-400, 400)");
        due.is(460, x.row(0, 2), "row(0, 2)");
        int[][] wrong = {{401, 0}, {-401, 0}, {0, 401}, {0, -401}, {MIN, 0}, {0, MAX}};
        for (int[] w : wrong) due.is(SeamCell.OUTSIDE, x.home(w[0], w[1]), "home outside");
        due.is(460, x.row(0, 2), "row(0, 2) behind refused calls");
        due.is(1, x.home(400, -400), "home(400, -400)");
        due.is(400, x.row(0, 2), "row(0, 2)");
        due.is(1, x.home(60, 0), "home(60, 0)");
        due.is(0, x.row(0, 2), "row(0, 2) from where it begins");
    }

    private static void bar() {
        due.promise(7);
        SeamCell x = new SeamCell();
        int[][] wrong = {{5, 0, 5, 9}, {6, 0, 5, 9}, {0, 5, 9, 5}, {0, 6, 9, 5}, {-401, 0, 1, 1},
            {0, -401, 1, 1}, {0, 0, 401, 1}, {0, 0, 1, 401}, {MIN, 0, 1, 1}, {0, 0, 1, MAX}};
        for (int[] w : wrong) {
            due.is(SeamCell.OUTSIDE, x.bar(w[0], w[1], w[2], w[3]), "bar outside");
        }
        due.is(1, x.bar(-400, -400, -399, -399), "bar 1");
        due.is(2, x.bar(399, 399, 400, 400), "bar 2");
        due.is(3, x.bar(0, 0, 1, 1), "bar 3");
        due.is(4, x.bar(0, 0, 1, 1), "bar 4");
        due.is(SeamCell.FULL, x.bar(10, 10, 20, 20), "bar 5");
        due.is(SeamCell.OUTSIDE, x.bar(20, 10, 10, 20), "bar 5 outside");
        due.is(4, x.told(1), "told(1)");
        due.is(1, x.free(15, 15, 15, 15), "free: bar 5 is not there");
        due.is(0, x.free(-1000, -1000, 0, 0), "free through bar 1");
        due.is(0, x.free(1000, 1000, 300, 300), "free through bar 2");
    }

    private static void seam() {
        due.promise(8);
        SeamCell x = new SeamCell();
        int[][] wrong = {{-101, 0, 1, 1, 1, 0}, {101, 0, 1, 1, 1, 0}, {0, -101, 1, 1, 1, 0},
            {0, 101, 1, 1, 1, 0}, {0, 0, -101, 1, 1, 0}, {0, 0, 101, 1, 1, 0}, {0, 0, 1, -101, 1, 0},
            {0, 0, 1, 101, 1, 0}, {0, 0, 1, 1, 0, 0}, {0, 0, 1, 1, 51, 0}, {0, 0, 1, 1, 1, -1},
            {0, 0, 1, 1, 1, 1001}, {7, 8, 7, 8, 1, 0}, {MIN, 0, 1, 1, 1, 0}, {0, 0, 1, 1, MAX, 0}};
        for (int[] w : wrong) {
            due.is(SeamCell.OUTSIDE, x.seam(w[0], w[1], w[2], w[3], w[4], w[5]), "seam outside");
        }
        due.is(0, x.told(0), "told(0)");
        due.is(0, x.seam(-100, -100, 100, 100, 50, 1000), "seam 0");
        due.is(1, x.seam(7, 8, 7, 9, 1, 0), "seam 1");
        for (int k = 2; k < 8; k++) due.is(k, x.seam(0, 0, k, 0, 1, 0), "seam " + k);
        due.is(SeamCell.FULL, x.seam(0, 0, 1, 0, 1, 0), "seam 8");
        due.is(SeamCell.OUTSIDE, x.seam(0, 0, 0, 0, 1, 0), "seam 8 outside");
        due.is(8, x.told(0), "told(0)");
        due.is(SeamCell.UNKNOWN, x.lacks(8, 0), "lacks(8, 0)");
    }

    private static void clear() {
        due.promise(9);
        SeamCell x = new SeamCell();
        x.table(0, 150);
        for (int k = 0; k < 3; k++) x.seam(-5, k, 5, k, 1, 0);
        x.bar(300, 300, 310, 310);
        x.bar(320, 300, 330, 310);
        x.add(1, 0);
        x.add(2, 1);
        x.touch(0, 0, 3, 1);
        x.touch(1, 0, -6, 1);
        x.shift();
        x.act(0, 1, 3);
        x.act(1, 0, 5);
        x.act(1, 1, 2);
        for (int w : new int[] {-1, 5, MIN, MAX}) due.is(SeamCell.UNKNOWN, x.clear(w), "clear " + w);
        due.is(2, x.clear(4), "clear(4)");
        due.is(0, x.told(5), "told(5)");
        due.is(3, x.told(0), "told(0) keeps the seams");
        due.is(1, x.add(0, 1), "add(0, 1)");
        due.is(2, x.add(2, 1), "add(2, 1)");
        due.is(3, x.clear(0), "clear(0)");
        due.is(0, x.told(0), "told(0)");
        due.is(0, x.told(5), "told(5): the row goes, too");
        due.is(0, x.clear(0), "clear(0)");
        due.is(2, x.clear(1), "clear(1)");
        due.is(1, x.free(305, 305, 305, 305), "free without bars");
        due.is(2, x.clear(2), "clear(2)");
        due.is(-20, x.shut(0, 0), "shut(0, 0)");
        due.is(20, x.shut(0, 1), "shut(0, 1)");
        due.is(-20, x.shut(1, 0), "shut(1, 0)");
        due.is(20, x.shut(1, 1), "shut(1, 1)");
        due.is(3, x.shifted(0), "shifted(0) stays");
        due.is(3, x.clear(3), "clear(3)");
        due.is(0, x.told(3) + x.told(4), "told(3), told(4)");
        due.is(1, x.act(0, 1, 3), "act(0, 1, 3): it is in no zone any more");
        due.is(SeamCell.STATE, x.act(1, 2, 2), "act(1, 2, 2)");
        due.is(0, x.seam(0, 0, 1, 0, 1, 0), "seam: numbers from 0 on");
    }

    private static void about() {
        due.promise(10);
        SeamCell x = new SeamCell();
        x.seam(0, 0, 3, 4, 5, 7);
        x.seam(0, 0, 1, 1, 1, 1000);
        x.seam(-100, -100, 100, 100, 50, 0);
        due.is(5, x.about(0, 0), "about(0, 0): 25 is a square");
        due.is(1, x.about(0, 1), "about(0, 1): 5 by 5");
        due.is(7, x.about(0, 2), "about(0, 2)");
        due.is(2, x.about(1, 0), "about(1, 0): the root of 2, up");
        due.is(2, x.about(1, 1), "about(1, 1)");
        due.is(1000, x.about(1, 2), "about(1, 2)");
        due.is(283, x.about(2, 0), "about(2, 0)");
        due.is(6, x.about(2, 1), "about(2, 1): 283 up by 50");
        for (int s : new int[] {-1, 3, 8, MIN, MAX}) {
            due.is(-1001, x.about(s, 0), "about: seam " + s);
            due.is(-1001, x.about(s, 8), "about: seam " + s + ", what 8");
        }
        for (int w : new int[] {-1, 8, MIN, MAX}) due.is(-1002, x.about(0, w), "about(0, " + w + ")");
        aboutQuarters();
    }

    private static void aboutQuarters() {
        SeamCell x = new SeamCell();
        x.seam(5, 7, 15, 8, 1, 0);
        x.seam(7, 5, 8, 15, 1, 0);
        due.is(SeamCell.NONE, x.about(0, 3), "about(0, 3): too near the arm");
        ends(x, 0, 5, 7, 15, 8);
        x.touch(0, 0, 3, 0);
        x.touch(1, 0, -4, 0);
        x.shift();
        x.table(100, 60);
        due.is(0, x.about(0, 3), "about(0, 3)");
        ends(x, 0, 108, 63, 118, 64);
        due.is(1, x.about(1, 3), "about(1, 3)");
        ends(x, 1, 98, 63, 88, 64);
        x.bar(80, 63, 98, 64);
        due.is(3, x.about(1, 3), "about(1, 3): quarter 2 is not flat");
        ends(x, 1, 108, 49, 118, 48);
        x.bar(100, 0, 150, 80);
        due.is(2, x.about(0, 3), "about(0, 3)");
        ends(x, 0, 98, 49, 88, 48);
        x.bar(-400, -400, 400, 400);
        due.is(SeamCell.NONE, x.about(0, 3), "about(0, 3): a bar all over");
        ends(x, 0, 108, 63, 118, 64);
    }

    private static void ends(SeamCell x, int s, int x0, int y0, int x1, int y1) {
        due.is(x0, x.about(s, 4), "about(" + s + ", 4)");
        due.is(y0, x.about(s, 5), "about(" + s + ", 5)");
        due.is(x1, x.about(s, 6), "about(" + s + ", 6)");
        due.is(y1, x.about(s, 7), "about(" + s + ", 7)");
    }

    private static void lacks() {
        due.promise(11);
        SeamCell x = new SeamCell();
        x.seam(0, 0, 10, 0, 1, 0);
        due.is(1, x.lacks(0, 0), "lacks(0, 0)");
        due.is(5, x.lacks(0, 1), "lacks(0, 1)");
        due.is(1, x.lacks(0, 2), "lacks(0, 2)");
        due.is(5, x.lacks(0, 3), "lacks(0, 3)");
        x.bar(0, -5, 5, 5);
        due.is(3, x.lacks(0, 0), "lacks(0, 0)");
        due.is(5, x.lacks(0, 1), "lacks(0, 1): along the bar's side");
        due.is(1, x.lacks(0, 2), "lacks(0, 2): meets the bar's side");
        due.is(5, x.lacks(0, 3), "lacks(0, 3)");
        x.bar(-1, -8, 1, 8);
        due.is(7, x.lacks(0, 3), "lacks(0, 3)");
        for (int s : new int[] {-1, 1, MIN, MAX}) {
            due.is(SeamCell.UNKNOWN, x.lacks(s, 0), "lacks: seam " + s);
            due.is(SeamCell.UNKNOWN, x.lacks(s, 4), "lacks: seam " + s + ", quarter 4");
        }
        for (int q : new int[] {-1, 4, MIN, MAX}) {
            due.is(SeamCell.OUTSIDE, x.lacks(0, q), "lacks: quarter " + q);
        }
    }

    /** All places of a seam have to be within, those between its ends, too. */
    private static void within() {
        SeamCell x = new SeamCell();
        x.arm(60, 20);
        x.seam(-60, 40, 60, 40, 1, 0);
        x.seam(-60, 39, 60, 39, 1, 0);
        x.seam(30, 39, 60, 39, 1, 0);
        x.seam(1, 39, 60, 39, 1, 0);
        x.seam(50, 0, 0, 50, 1, 0);
        due.is(0, x.lacks(0, 0), "lacks: touches the inner circle");
        due.is(1, x.lacks(1, 0), "lacks: both ends are within, the middle is too near");
        due.is(0, x.lacks(2, 0), "lacks: the nearest place is an end");
        due.is(1, x.lacks(3, 0), "lacks: one end is too near");
        due.is(1, x.lacks(4, 0), "lacks: slanting through the inner circle");
        x.seam(60, 32, 24, 32, 1, 0);
        x.seam(24, 32, 60, 32, 1, 0);
        x.seam(60, 32, 23, 32, 1, 0);
        due.is(0, x.lacks(5, 0), "lacks: the last end is just within");
        due.is(0, x.lacks(6, 0), "lacks: the first end is just within");
        due.is(1, x.lacks(7, 0), "lacks: the last end is too near");
        x.arm(60, 25);
        due.is(0, x.lacks(4, 0), "lacks: 1250 is not below 35 times 35");
        x.arm(60, 60);
        x.clear(0);
        x.seam(-72, 96, 72, 96, 1, 0);
        x.seam(-73, 96, 72, 96, 1, 0);
        x.seam(-10, 0, 10, 0, 1, 0);
        due.is(0, x.lacks(0, 0), "lacks: both ends just within 120");
        due.is(1, x.lacks(1, 0), "lacks: one end beyond 120");
        due.is(0, x.lacks(2, 0), "lacks: with links alike the middle is within");
    }

    private static void flat() {
        SeamCell x = new SeamCell();
        x.rules(1000, 0);
        x.seam(0, 0, 1, 10, 1, 0);
        x.seam(0, 0, 1, 11, 1, 0);
        x.seam(0, 0, 0, 1, 1, 0);
        x.seam(0, 0, -10, -1, 1, 0);
        due.is(0, x.lacks(0, 0) & 4, "lacks: 1000 is not above 1000");
        due.is(4, x.lacks(1, 0) & 4, "lacks: 1100 is above 1000");
        due.is(4, x.lacks(2, 0) & 4, "lacks: upright is never flat");
        due.is(0, x.lacks(3, 0) & 4, "lacks: the size of a difference below 0");
        due.is(0, x.lacks(3, 1) & 4, "lacks: turned by a quarter");
        x.rules(0, 0);
        due.is(4, x.lacks(3, 0) & 4, "lacks: with flatness 0");
        due.is(0, x.lacks(2, 1) & 4, "lacks: quite flat");
    }

    private static void near() {
        due.promise(12);
        SeamCell x = new SeamCell();
        x.seam(-100, 0, 0, 0, 1, 0);
        x.seam(12, 16, 100, 16, 1, 0);
        x.seam(100, 50, 12, 17, 1, 0);
        x.seam(-50, 1, -50, 90, 1, 0);
        due.is(1, x.near(0, 1), "near(0, 1): the distance is the gap");
        due.is(1, x.near(1, 0), "near(1, 0)");
        due.is(0, x.near(0, 2), "near(0, 2)");
        due.is(1, x.near(1, 2), "near(1, 2): first end and last end");
        due.is(0, x.near(0, 3), "near(0, 3): ends alone count");
        due.is(1, x.near(3, 3), "near(3, 3)");
        x.rules(100, 0);
        due.is(0, x.near(1, 2), "near(1, 2) without a gap");
        due.is(1, x.near(3, 3), "near(3, 3) without a gap");
        for (int s : new int[] {-1, 4, MIN, MAX}) {
            due.is(SeamCell.UNKNOWN, x.near(s, 0), "near(" + s + ", 0)");
            due.is(SeamCell.UNKNOWN, x.near(0, s), "near(0, " + s + ")");
        }
    }

    private static void free() {
        due.promise(13);
        SeamCell x = new SeamCell();
        x.bar(0, 0, 10, 20);
        int[][] blocked = {{5, 5, 5, 5}, {-5, 10, 15, 10}, {5, -5, 5, 30}, {-1, 10, 1, 10},
            {2, 2, 3, 3}, {0, 0, 10, 20}, {10, 20, 0, 0}, {0, 20, 10, 0}, {0, 5, 10, 5},
            {-1, 1, 1, 2}, {-1000, -999, 1000, 1000}, {10, 20, 9, 19}, {0, 10, 1, 10},
            {-1, 18, 2, 23}, {2, 23, -1, 18}};
        for (int[] b : blocked) due.is(0, x.free(b[0], b[1], b[2], b[3]), "free " + text(b));
        int[][] open = {{0, 0, 0, 0}, {0, 5, 0, 5}, {0, -5, 0, 30}, {10, -5, 10, 30}, {-5, 0, 15, 0},
            {-5, 20, 15, 20}, {-1, 1, 1, -1}, {-5, 5, 0, 5}, {10, 5, 15, 5}, {11, 0, 11, 20},
            {0, 0, 0, 20}, {-10, 10, 10, 30}, {20, 10, 0, -10}, {-1000, 0, 1000, -1},
            {-1, 19, 1, 22}, {1, 22, -1, 19}};
        for (int[] o : open) due.is(1, x.free(o[0], o[1], o[2], o[3]), "free " + text(o));
        int[][] wrong = {{-1001, 0, 0, 0}, {0, 1001, 0, 0}, {0, 0, 1001, 0}, {0, 0, 0, -1001},
            {MIN, MIN, MAX, MAX}};
        for (int[] w : wrong) {
            due.is(SeamCell.OUTSIDE, x.free(w[0], w[1], w[2], w[3]), "free " + text(w));
        }
        x.bar(10, 0, 20, 20);
        due.is(1, x.free(10, -5, 10, 30), "free between two bars side by side");
        due.is(0, x.free(10, 5, 11, 5), "free into the second bar");
    }

    private static String text(int[] line) {
        return java.util.Arrays.toString(line);
    }
}
