/** Promises 18 to 21: touches that shut in by how much a part is shifted. */
public final class TouchTest {
    private static final Due due = new Due();
    private static final int MIN = Integer.MIN_VALUE, MAX = Integer.MAX_VALUE;

    public static void main(String[] args) {
        touch();
        touchRefused();
        shut();
        shift();
        shifted();
        due.end();
    }

    private static void touch() {
        due.promise(18);
        SeamCell x = new SeamCell();
        due.is(1, x.touch(0, -100, -100, 50), "touch wider than at first");
        due.is(-20, x.shut(0, 0), "shut(0, 0)");
        due.is(20, x.shut(0, 1), "shut(0, 1)");
        due.is(2, x.touch(1, 100, 112, 10), "touch");
        due.is(2, x.shut(1, 0), "shut(1, 0)");
        due.is(20, x.shut(1, 1), "shut(1, 1): not beyond 20");
        due.is(-20, x.shut(0, 0), "shut(0, 0): the other axis");
        due.is(3, x.touch(1, 0, 2, 0), "touch that leaves one");
        due.is(2, x.shut(1, 0), "shut(1, 0)");
        due.is(2, x.shut(1, 1), "shut(1, 1)");
        due.is(SeamCell.NO, x.touch(1, 0, 3, 0), "touch that leaves none");
        due.is(SeamCell.NO, x.touch(1, 0, 1, 0), "touch that leaves none");
        due.is(4, x.touch(1, 0, 3, 1), "touch just at the edge");
        due.is(3 + 1, x.told(2), "told(2)");
        due.is(SeamCell.NO, x.touch(0, -100, 200, 50), "touch far off");
        due.is(5, x.touch(0, 100, 100, 0), "touch");
        due.is(0, x.shut(0, 0), "shut(0, 0)");
        due.is(0, x.shut(0, 1), "shut(0, 1)");
        due.is(SeamCell.NO, x.touch(0, 0, 200, 50), "touch: m is as great as may be");
        due.is(SeamCell.NO, x.touch(0, 0, -200, 50), "touch: m is as small as may be");
    }

    private static void touchRefused() {
        SeamCell x = new SeamCell();
        int[][] wrong = {{-1, 0, 0, 0}, {2, 0, 0, 0}, {0, -101, -100, 9}, {0, 101, 100, 9},
            {0, -100, -201, 50}, {0, 100, 201, 50}, {0, 0, 0, -1}, {0, 0, 0, 51}, {MIN, 0, 0, 0},
            {0, MAX, MAX, 0}, {0, MIN, MIN, 0}, {0, 0, 0, MAX}, {0, 0, 0, MIN}};
        for (int[] w : wrong) {
            due.is(SeamCell.OUTSIDE, x.touch(w[0], w[1], w[2], w[3]), "touch outside");
        }
        due.is(0, x.told(2), "told(2)");
        due.is(SeamCell.NO, x.touch(0, 0, 21, 0), "touch beyond 20");
        due.is(SeamCell.NO, x.touch(0, 0, -21, 0), "touch beyond -20");
        due.is(0, x.told(2), "told(2)");
        for (int k = 1; k <= 20; k++) due.is(k, x.touch(k % 2, 0, 0, 9), "touch " + k);
        due.is(SeamCell.FULL, x.touch(0, 0, 0, 9), "touch 21");
        due.is(SeamCell.FULL, x.touch(0, 0, 20, 0), "touch 21 that leaves none");
        due.is(SeamCell.OUTSIDE, x.touch(0, 0, 0, 51), "touch 21 outside");
        due.is(20, x.told(2), "told(2)");
        due.is(20, x.clear(2), "clear(2)");
        due.is(1, x.touch(0, 0, 20, 0), "touch 1");
    }

    private static void shut() {
        due.promise(19);
        SeamCell x = new SeamCell();
        x.touch(0, 50, 40, 3);
        due.is(-13, x.shut(0, 0), "shut(0, 0)");
        due.is(-7, x.shut(0, 1), "shut(0, 1)");
        x.touch(0, 50, 42, 2);
        due.is(-10, x.shut(0, 0), "shut(0, 0)");
        due.is(-7, x.shut(0, 1), "shut(0, 1)");
        due.is(-20, x.shut(1, 0), "shut(1, 0)");
        due.is(20, x.shut(1, 1), "shut(1, 1)");
        for (int w : new int[] {-1, 2, MIN, MAX}) {
            due.is(-1002, x.shut(w, 0), "shut(" + w + ", 0)");
            due.is(-1002, x.shut(0, w), "shut(0, " + w + ")");
        }
    }

    private static void shift() {
        due.promise(20);
        SeamCell x = new SeamCell();
        x.touch(0, 0, 18, 5);
        x.touch(1, 0, -18, 5);
        due.is(0, x.shifted(0), "shifted(0) ahead of shift()");
        due.is(1, x.shift(), "shift()");
        due.is(16, x.shifted(0), "shifted(0): 33 by 2, towards 0");
        due.is(-16, x.shifted(1), "shifted(1): -33 by 2, towards 0");
        x.touch(0, 0, 20, 0);
        due.is(16, x.shifted(0), "shifted(0) ahead of shift()");
        due.is(1, x.shift(), "shift()");
        due.is(20, x.shifted(0), "shifted(0)");
        due.is(-16, x.shifted(1), "shifted(1)");
        x.seam(1, 2, 3, 4, 1, 0);
        due.is(21, x.about(0, 4), "about(0, 4)");
        due.is(-14, x.about(0, 5), "about(0, 5)");
    }

    private static void shifted() {
        due.promise(21);
        SeamCell x = new SeamCell();
        x.touch(0, 0, 1, 0);
        x.touch(1, 0, -2, 0);
        x.shift();
        due.is(1, x.shifted(0), "shifted(0)");
        due.is(-2, x.shifted(1), "shifted(1)");
        for (int w : new int[] {-1, 2, MIN, MAX}) due.is(-1002, x.shifted(w), "shifted(" + w + ")");
        x.clear(2);
        due.is(1, x.shifted(0), "shifted(0) behind clear(2)");
        x.shift();
        due.is(0, x.shifted(0), "shifted(0) behind clear(2) and shift()");
    }
}
