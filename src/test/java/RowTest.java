/** Promises 14 to 17: rows of seams, their times, and the best of all rows. */
public final class RowTest {
    private static final Due due = new Due();
    private static final int MIN = Integer.MIN_VALUE, MAX = Integer.MAX_VALUE;

    public static void main(String[] args) {
        add();
        row();
        rests();
        turns();
        lifts();
        total();
        best();
        bestOfSeveral();
        bestOfHot();
        bestOfQuarters();
        bestRefused();
        due.end();
    }

    /** Seams side by side from x -5 to 5, one above the other, all good at quarter 0. */
    private static SeamCell withSeams(int count) {
        SeamCell x = new SeamCell();
        x.table(0, 150);
        for (int k = 0; k < count; k++) x.seam(-5, k, 5, k, 1, 0);
        return x;
    }

    private static void add() {
        due.promise(14);
        SeamCell x = withSeams(8);
        for (int s : new int[] {-1, 8, MIN, MAX}) {
            due.is(SeamCell.UNKNOWN, x.add(s, 0), "add(" + s + ", 0)");
            due.is(SeamCell.UNKNOWN, x.add(s, 2), "add(" + s + ", 2)");
        }
        for (int w : new int[] {-1, 2, MIN, MAX}) {
            due.is(SeamCell.OUTSIDE, x.add(0, w), "add(0, " + w + ")");
        }
        due.is(0, x.told(5), "told(5)");
        for (int k = 0; k < 8; k++) due.is(k + 1, x.add(7 - k, k % 2), "add");
        due.is(7, x.row(0, 0), "row(0, 0)");
        due.is(0, x.row(7, 0), "row(7, 0)");
        due.is(0, x.row(0, 1), "row(0, 1)");
        due.is(1, x.row(7, 1), "row(7, 1)");
        due.is(SeamCell.STATE, x.add(3, 0), "add(3, 0): it is there");
        due.is(SeamCell.STATE, x.add(3, 1), "add(3, 1): it is there");
        due.is(SeamCell.OUTSIDE, x.add(3, 2), "add(3, 2)");
        x.clear(4);
        x.add(0, 0);
        x.table(0, 0);
        due.is(SeamCell.STATE, x.add(0, 0), "add(0, 0): there, and without a quarter");
        due.is(SeamCell.NO, x.add(1, 0), "add(1, 0)");
        due.is(SeamCell.OUTSIDE, x.add(1, 2), "add(1, 2)");
        due.is(1, x.told(5), "told(5)");
        x.table(0, 150);
        due.is(2, x.add(1, 0), "add(1, 0)");
    }

    private static void row() {
        due.promise(15);
        SeamCell x = withSeams(3);
        x.times(10, 3, 5, 10);
        due.is(SeamCell.UNKNOWN, x.row(0, 0), "row(0, 0) of no row");
        x.add(2, 1);
        x.add(0, 0);
        int[][] want = {{2, 1, 50, 60, 0}, {0, 0, 61, 71, 0}};
        for (int k = 0; k < 2; k++) {
            for (int what = 0; what < 5; what++) {
                due.is(want[k][what], x.row(k, what), "row(" + k + ", " + what + ")");
            }
        }
        for (int k : new int[] {-1, 2, 8, MIN, MAX}) {
            due.is(SeamCell.UNKNOWN, x.row(k, 0), "row(" + k + ", 0)");
            due.is(SeamCell.UNKNOWN, x.row(k, 5), "row(" + k + ", 5)");
        }
        for (int w : new int[] {-1, 5, MIN, MAX}) {
            due.is(SeamCell.OUTSIDE, x.row(0, w), "row(0, " + w + ")");
        }
        x.bar(-1, 149, 1, 151);
        x.rules(0, 20);
        for (int what = 0; what < 5; what++) {
            due.is(SeamCell.NO, x.row(0, what), "row(0, " + what + "): seam 0 is barred");
        }
        due.is(SeamCell.UNKNOWN, x.row(2, 0), "row(2, 0): ahead of NO");
        due.is(SeamCell.OUTSIDE, x.row(0, 5), "row(0, 5): ahead of NO");
        x.clear(1);
        x.times(10, 100, 5, 10);
        due.is(2, x.row(0, 2), "row(0, 2), as all is told now");
    }

    /** Each one ahead counts that is near, not the last one alone. */
    private static void rests() {
        SeamCell x = new SeamCell();
        x.table(0, 150);
        x.rules(100, 0);
        x.times(10, 100, 5, 10);
        x.home(0, 150);
        x.seam(0, 0, 20, 0, 1, 1000);
        x.seam(60, 30, 70, 30, 10, 1000);
        x.seam(0, 0, -20, 0, 1, 59);
        x.seam(-20, 0, -40, 0, 1, 0);
        x.add(0, 0);
        x.add(1, 0);
        x.add(2, 0);
        x.add(3, 0);
        due.is(0, x.row(0, 2), "row(0, 2)");
        due.is(20, x.row(0, 3), "row(0, 3)");
        due.is(21, x.row(1, 2), "row(1, 2): not near");
        due.is(0, x.row(1, 4), "row(1, 4)");
        due.is(120, x.row(2, 2), "row(2, 2): 20 and 1000 by 10");
        due.is(120 - 23, x.row(2, 4), "row(2, 4)");
        due.is(140, x.row(2, 3), "row(2, 3)");
        due.is(145, x.row(3, 2), "row(3, 2): 140 and 59 by 10, cut down");
        due.is(5, x.row(3, 4), "row(3, 4)");
        x.clear(4);
        x.add(3, 0);
        x.add(0, 0);
        x.add(2, 1);
        due.is(1, x.row(0, 2), "row(0, 2)");
        due.is(22, x.row(1, 2), "row(1, 2)");
        due.is(0, x.row(1, 4), "row(1, 4): 3 lies not near 0");
        due.is(142, x.row(2, 2), "row(2, 2): 42 and 100");
    }

    /** From quarter 1 to 3 two quarters, from 0 to 3 and from 3 to 0 one. */
    private static void turns() {
        SeamCell x = new SeamCell();
        x.table(0, 200);
        x.times(7, 100, 0, 1);
        x.rules(0, 0);
        x.home(0, 200);
        x.seam(30, 0, 30, 10, 50, 0);
        x.seam(-50, 0, -50, 10, 50, 0);
        x.seam(0, 60, 10, 60, 50, 0);
        x.bar(-50, 140, 50, 160);
        due.is(1, x.about(0, 3), "about(0, 3)");
        due.is(3, x.about(1, 3), "about(1, 3): barred at 1");
        due.is(0, x.about(2, 3), "about(2, 3)");
        x.add(1, 0);
        x.add(0, 0);
        x.add(2, 0);
        due.is(7 + 1, x.row(0, 2), "row(0, 2): from 0 to 3");
        due.is(9 + 14 + 1, x.row(1, 2), "row(1, 2): from 3 to 1");
        due.is(25 + 7 + 1, x.row(2, 2), "row(2, 2): from 1 to 0");
        x.clear(4);
        x.add(1, 0);
        x.add(2, 0);
        due.is(9 + 7 + 1, x.row(1, 2), "row(1, 2): from 3 to 0");
    }

    private static void lifts() {
        SeamCell x = withSeams(1);
        x.add(0, 0);
        x.times(10, 20, 6, 10);
        due.is(8, x.row(0, 2), "row(0, 2): 150 up by 20");
        x.bar(-400, 200, 400, 250);
        due.is(8 + 12, x.row(0, 2), "row(0, 2): over a bar");
        x.clear(1);
        x.bar(0, 200, 10, 250);
        due.is(8, x.row(0, 2), "row(0, 2): beside a bar");
        x.home(-20, 230);
        due.is(4, x.row(0, 2), "row(0, 2): 80 by 20, even");
    }

    private static void total() {
        due.promise(16);
        SeamCell x = withSeams(2);
        due.is(0, x.total(), "total() of no row");
        x.add(1, 0);
        due.is(8 + 10, x.total(), "total()");
        x.add(0, 1);
        due.is(18 + 1 + 10, x.total(), "total()");
        x.table(0, 0);
        due.is(SeamCell.NO, x.total(), "total()");
        x.clear(4);
        due.is(0, x.total(), "total() of an empty row, though no seam has a quarter");
        x.table(0, 150);
        x.add(0, 0);
        x.seam(0, 0, 100, 100, 1, 0);
        x.rules(0, 20);
        due.is(18, x.total(), "total(): seams beside the row may lack a quarter");
    }

    private static void best() {
        due.promise(17);
        SeamCell x = new SeamCell();
        due.is(0, x.best(), "best() without seams");
        x.table(0, 200);
        x.times(10, 1, 5, 1);
        x.home(50, 200);
        x.rules(100, 0);
        x.seam(-50, 0, -10, 0, 40, 0);
        x.seam(50, 0, 20, 0, 30, 0);
        due.is(0 + 1 + 30 + 1, x.best(), "best()");
        due.is(1, x.row(0, 0), "row(0, 0)");
        due.is(0, x.row(0, 1), "row(0, 1)");
        due.is(0, x.row(1, 0), "row(1, 0)");
        due.is(1, x.row(1, 1), "row(1, 1): come to from its last end");
        due.is(2, x.told(5), "told(5)");
        due.is(32, x.total(), "total()");
        x.clear(4);
        x.add(0, 0);
        due.is(32, x.best(), "best() in place of another row");
        due.is(2, x.told(5), "told(5)");
        x.clear(0);
        due.is(0, x.best(), "best() without seams");
    }

    /** Alike rows: the lesser seam comes first, then the lesser way. */
    private static void bestOfSeveral() {
        SeamCell x = withSeams(6);
        x.times(0, 100, 0, 1);
        x.rules(100, 0);
        due.is(2 + 6 * 10 + 5, x.best(), "best()");
        for (int k = 0; k < 6; k++) {
            due.is(k, x.row(k, 0), "row(" + k + ", 0)");
            due.is(0, x.row(k, 1), "row(" + k + ", 1)");
        }
        SeamCell y = new SeamCell();
        y.table(0, 200);
        y.times(0, 1, 0, 1);
        y.home(0, 200);
        y.rules(100, 0);
        y.seam(20, 0, 10, 0, 10, 0);
        y.seam(-10, 0, -20, 0, 10, 0);
        due.is(10 + 1 + 30 + 1, y.best(), "best()");
        due.is(0, y.row(0, 0), "row(0, 0): the lesser seam");
        due.is(0, y.row(0, 1), "row(0, 1): the lesser way, 20 there and 20 on are as good as 10 and 30");
        due.is(0, y.row(1, 1), "row(1, 1)");
        y.home(1, 200);
        due.is(19 + 1 + 20 + 1, y.best(), "best()");
        y.home(-20, 200);
        due.is(0 + 1 + 20 + 1, y.best(), "best()");
        due.is(1, y.row(0, 0), "row(0, 0)");
        due.is(1, y.row(0, 1), "row(0, 1)");
        due.is(1, y.row(1, 1), "row(1, 1)");
    }

    /** Two seams that meet: a third one is done while the first of them cools. */
    private static void bestOfHot() {
        SeamCell x = new SeamCell();
        x.table(0, 200);
        x.times(0, 1, 0, 1);
        x.rules(100, 0);
        x.home(-10, 200);
        x.seam(-10, 0, 0, 0, 10, 100);
        x.seam(0, 0, 10, 0, 10, 100);
        x.seam(30, 0, 80, 0, 1, 0);
        due.is(1 + 30 + 50 + 70 + 1, x.best(), "best()");
        order(x, new int[][] {{0, 0, 0, 1, 0}, {2, 0, 31, 81, 0}, {1, 1, 151, 152, 0}});
        x.clear(0);
        x.seam(-10, 0, 0, 0, 10, 40);
        x.seam(0, 0, 10, 0, 10, 1000);
        due.is(1 + 40 + 1, x.best(), "best(): the less hot one first");
        order(x, new int[][] {{0, 0, 0, 1, 0}, {1, 0, 41, 42, 40}});
        x.home(10, 200);
        due.is(10 + 1 + 40 + 1, x.best(), "best(): from the other end");
        order(x, new int[][] {{0, 1, 10, 11, 0}, {1, 0, 51, 52, 30}});
    }

    private static void bestOfQuarters() {
        SeamCell x = new SeamCell();
        x.table(0, 200);
        x.times(50, 100, 0, 1);
        x.rules(0, 0);
        x.home(0, 200);
        x.seam(0, 10, 0, 20, 10, 0);
        x.seam(10, 0, 20, 0, 10, 0);
        x.seam(5, 40, 5, 50, 10, 0);
        x.seam(30, 0, 40, 0, 10, 0);
        due.is(4 * 2 + 50, x.best(), "best(): one turn is enough");
        int[] want = {1, 3, 0, 2};
        for (int k = 0; k < 4; k++) due.is(want[k], x.row(k, 0), "row(" + k + ", 0)");
    }

    private static void order(SeamCell x, int[][] want) {
        due.is(want.length, x.told(5), "told(5)");
        for (int k = 0; k < want.length; k++) {
            for (int what = 0; what < 5; what++) {
                due.is(want[k][what], x.row(k, what), "row(" + k + ", " + what + ")");
            }
        }
    }

    private static void bestRefused() {
        SeamCell x = withSeams(6);
        x.add(3, 1);
        x.seam(0, 0, 100, 100, 1, 0);
        due.is(SeamCell.FULL, x.best(), "best() of 7");
        x.table(0, 0);
        due.is(SeamCell.FULL, x.best(), "best() of 7 without quarters");
        due.is(1, x.told(5), "told(5): the row is as it was");
        SeamCell y = withSeams(5);
        y.add(3, 1);
        y.seam(0, 50, 1, 100, 1, 0);
        y.rules(10, 20);
        due.is(1, y.about(5, 3), "about(5, 3)");
        y.rules(1, 20);
        due.is(SeamCell.NONE, y.about(5, 3), "about(5, 3)");
        due.is(SeamCell.NO, y.best(), "best(): a seam has no quarter");
        due.is(1, y.told(5), "told(5): the row is as it was");
        due.is(3, y.row(0, 0), "row(0, 0)");
        due.is(1, y.row(0, 1), "row(0, 1)");
    }
}
