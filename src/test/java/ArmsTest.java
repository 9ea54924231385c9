/** Promises 22 to 27: two arms that share zones, their runs, and where they could lock. */
public final class ArmsTest {
    private static final Due due = new Due();
    private static final int MIN = Integer.MIN_VALUE, MAX = Integer.MAX_VALUE;
    private static final int WORK = 0, ENTER = 1, LEAVE = 2;

    public static void main(String[] args) {
        act();
        actRefused();
        run();
        runLocked();
        ran();
        web();
        lock();
        told();
        due.end();
    }

    private static void act() {
        due.promise(22);
        SeamCell x = new SeamCell();
        due.is(1, x.act(0, WORK, 1), "act(0, 0, 1)");
        due.is(2, x.act(0, WORK, 50), "act(0, 0, 50)");
        due.is(3, x.act(0, ENTER, 0), "act(0, 1, 0)");
        due.is(4, x.act(0, ENTER, 4), "act(0, 1, 4)");
        due.is(1, x.act(1, ENTER, 4), "act(1, 1, 4): zones are each arm's own here");
        due.is(SeamCell.STATE, x.act(0, ENTER, 4), "act(0, 1, 4): it is in it");
        due.is(5, x.act(0, LEAVE, 0), "act(0, 2, 0)");
        due.is(SeamCell.STATE, x.act(0, LEAVE, 0), "act(0, 2, 0): it is not in it");
        due.is(6, x.act(0, ENTER, 0), "act(0, 1, 0) once more");
        due.is(SeamCell.STATE, x.act(1, LEAVE, 0), "act(1, 2, 0): the other arm is in it");
        due.is(2, x.act(1, LEAVE, 4), "act(1, 2, 4)");
        due.is(6, x.told(3), "told(3)");
        due.is(2, x.told(4), "told(4)");
    }

    private static void actRefused() {
        SeamCell x = new SeamCell();
        for (int w : new int[] {-1, 2, MIN, MAX}) {
            due.is(SeamCell.UNKNOWN, x.act(w, WORK, 1), "act: arm " + w);
            due.is(SeamCell.UNKNOWN, x.act(w, 9, 99), "act: arm " + w + ", kind 9");
        }
        int[][] wrong = {{-1, 1}, {3, 1}, {MIN, 1}, {MAX, 1}, {WORK, 0}, {WORK, 51}, {WORK, MIN},
            {WORK, MAX}, {ENTER, -1}, {ENTER, 5}, {ENTER, MAX}, {LEAVE, -1}, {LEAVE, 5}, {LEAVE, MIN}};
        for (int[] w : wrong) due.is(SeamCell.OUTSIDE, x.act(0, w[0], w[1]), "act outside");
        due.is(0, x.told(3), "told(3)");
        due.is(1, x.act(0, ENTER, 2), "act 1");
        for (int k = 2; k <= 16; k++) due.is(k, x.act(0, WORK, k), "act " + k);
        due.is(SeamCell.FULL, x.act(0, WORK, 1), "act 17");
        due.is(SeamCell.FULL, x.act(0, LEAVE, 2), "act 17");
        due.is(SeamCell.STATE, x.act(0, ENTER, 2), "act 17 where it is in it");
        due.is(SeamCell.STATE, x.act(0, LEAVE, 3), "act 17 where it is not in it");
        due.is(SeamCell.OUTSIDE, x.act(0, WORK, 51), "act 17 outside");
        due.is(1, x.act(1, WORK, 1), "act 1 of the other arm");
        due.is(16, x.told(3), "told(3)");
    }

    /** Ticks, acts of both, waits of both. */
    private static void ranAs(SeamCell x, int ticks, int done0, int done1, int waits0, int waits1) {
        int[] want = {ticks, done0, done1, waits0, waits1};
        for (int what = 0; what < 5; what++) due.is(want[what], x.ran(what), "ran(" + what + ")");
    }

    private static void run() {
        due.promise(23);
        SeamCell x = new SeamCell();
        due.is(1, x.run(), "run() without acts");
        ranAs(x, 0, 0, 0, 0, 0);
        x.act(0, ENTER, 0);
        due.is(1, x.run(), "run() of one act");
        ranAs(x, 1, 1, 0, 0, 0);
        x.act(0, LEAVE, 0);
        x.act(1, ENTER, 0);
        due.is(1, x.run(), "run(): arm 0 goes ahead of arm 1 in a tick");
        ranAs(x, 1, 2, 1, 0, 0);
        x.act(0, WORK, 1);
        x.act(0, WORK, 2);
        due.is(1, x.run(), "run(): no more than one work begins in a tick");
        ranAs(x, 3, 4, 1, 0, 0);
        x.act(1, LEAVE, 0);
        x.act(1, WORK, 50);
        due.is(1, x.run(), "run()");
        ranAs(x, 50, 4, 3, 0, 0);

        SeamCell y = new SeamCell();
        y.act(1, ENTER, 1);
        y.act(1, WORK, 3);
        y.act(1, LEAVE, 1);
        y.act(0, WORK, 1);
        y.act(0, ENTER, 1);
        y.act(0, LEAVE, 1);
        due.is(1, y.run(), "run(): arm 0 waits for a leave of arm 1 a tick longer");
        ranAs(y, 5, 3, 3, 3, 0);

        SeamCell z = new SeamCell();
        z.act(0, ENTER, 0);
        z.act(0, WORK, 2);
        z.act(0, LEAVE, 0);
        z.act(1, ENTER, 1);
        z.act(1, ENTER, 0);
        z.act(1, WORK, 1);
        due.is(1, z.run(), "run(): a tick with an act ahead of the wait is none that it waits");
        ranAs(z, 3, 3, 3, 0, 1);
    }

    private static void runLocked() {
        SeamCell x = new SeamCell();
        x.act(0, ENTER, 0);
        x.act(1, ENTER, 0);
        due.is(0, x.run(), "run(): arm 0 is done with the zone in its hand");
        ranAs(x, 2, 1, 0, 0, 2);
        x.act(0, WORK, 3);
        due.is(0, x.run(), "run()");
        ranAs(x, 4, 2, 0, 0, 4);

        SeamCell y = new SeamCell();
        y.act(0, WORK, 1);
        y.act(0, ENTER, 3);
        y.act(1, ENTER, 3);
        due.is(0, y.run(), "run(): arm 1 is done with the zone in its hand");
        ranAs(y, 2, 1, 1, 1, 0);

        SeamCell z = new SeamCell();
        z.act(0, ENTER, 0);
        z.act(0, WORK, 2);
        z.act(0, ENTER, 1);
        z.act(1, ENTER, 1);
        z.act(1, WORK, 4);
        z.act(1, ENTER, 0);
        due.is(0, z.run(), "run(): both wait");
        ranAs(z, 5, 2, 2, 3, 1);
        due.is(3, z.told(3), "told(3): a run takes no acts away");
        due.is(0, z.run(), "run() once more");
        ranAs(z, 5, 2, 2, 3, 1);
    }

    private static void ran() {
        due.promise(24);
        SeamCell x = new SeamCell();
        for (int w : new int[] {-1, 5, MIN, MAX}) due.is(SeamCell.OUTSIDE, x.ran(w), "ran(" + w + ")");
        for (int w = 0; w < 5; w++) due.is(SeamCell.STATE, x.ran(w), "ran(" + w + ") ahead of run()");
        x.act(0, ENTER, 0);
        x.act(0, WORK, 3);
        x.act(0, LEAVE, 0);
        x.act(1, ENTER, 0);
        x.act(1, LEAVE, 0);
        x.run();
        ranAs(x, 4, 3, 2, 0, 3);
        for (int w : new int[] {-1, 5, MIN, MAX}) due.is(SeamCell.OUTSIDE, x.ran(w), "ran(" + w + ")");
        x.act(1, WORK, 50);
        ranAs(x, 4, 3, 2, 0, 3);
        x.clear(3);
        ranAs(x, 4, 3, 2, 0, 3);
        x.run();
        ranAs(x, 0, 0, 0, 0, 0);
    }

    private static void web() {
        due.promise(25);
        SeamCell x = new SeamCell();
        due.is(1, x.web(), "web() without acts");
        x.act(0, WORK, 9);
        x.act(0, WORK, 9);
        due.is(3, x.web(), "web() of one arm");
        x.act(1, WORK, 1);
        due.is(6, x.web(), "web() of both");
        x.clear(3);
        x.act(0, ENTER, 0);
        x.act(0, LEAVE, 0);
        x.act(1, ENTER, 0);
        x.act(1, LEAVE, 0);
        due.is(8, x.web(), "web(): but for the pair where both are in the zone");
        x.clear(3);
        x.act(0, ENTER, 0);
        x.act(0, WORK, 1);
        x.act(1, ENTER, 0);
        x.act(1, WORK, 1);
        due.is(5, x.web(), "web(): what lies behind cannot be come to");
        x.clear(3);
        for (int k = 0; k < 16; k++) {
            x.act(0, WORK, 50);
            x.act(1, WORK, 50);
        }
        due.is(289, x.web(), "web() of the most acts");
        due.is(0, x.lock(-1), "lock(-1)");
    }

    private static void lock() {
        due.promise(26);
        SeamCell x = new SeamCell();
        due.is(SeamCell.NONE, x.lock(0), "lock(0) without acts");
        due.is(0, x.lock(-1), "lock(-1) without acts");
        x.act(0, ENTER, 0);
        x.act(0, WORK, 1);
        x.act(1, ENTER, 0);
        x.act(1, WORK, 1);
        due.is(2, x.lock(-1), "lock(-1)");
        due.is(2, x.lock(0), "lock(0): arm 1 has done all");
        due.is(200, x.lock(1), "lock(1): arm 0 has done all");
        for (int w : new int[] {2, 3, 1000, MAX, -2, MIN}) {
            due.is(SeamCell.NONE, x.lock(w), "lock(" + w + ")");
        }
        x.act(0, LEAVE, 0);
        x.act(1, LEAVE, 0);
        due.is(0, x.lock(-1), "lock(-1): none where all can be done");
        due.is(SeamCell.NONE, x.lock(0), "lock(0)");
        manyLocks();
    }

    /** Both take zones 0 and 1 crosswise, twice: two locks each time round. */
    private static void manyLocks() {
        SeamCell x = new SeamCell();
        int[][] acts = {{ENTER, 0}, {ENTER, 1}, {LEAVE, 1}, {LEAVE, 0}};
        for (int k = 0; k < 8; k++) {
            x.act(0, acts[k % 4][0], acts[k % 4][1]);
            x.act(1, acts[k % 4][0], 1 - acts[k % 4][1]);
        }
        due.is(4, x.lock(-1), "lock(-1)");
        int[] want = {101, 105, 501, 505, SeamCell.NONE};
        for (int i = 0; i < 5; i++) due.is(want[i], x.lock(i), "lock(" + i + ")");
        due.is(SeamCell.STATE, x.ran(0), "ran(0): web and lock are no run");
    }

    private static void told() {
        due.promise(27);
        SeamCell x = new SeamCell();
        x.table(0, 150);
        for (int k = 0; k < 6; k++) x.seam(-5, k, 5, k, 1, 0);
        for (int k = 0; k < 4; k++) x.bar(300, 300, 310, 310);
        for (int k = 0; k < 3; k++) x.touch(0, 0, 0, 5);
        for (int k = 0; k < 7; k++) x.act(0, WORK, 1);
        for (int k = 0; k < 2; k++) x.act(1, WORK, 1);
        x.add(2, 0);
        int[] want = {6, 4, 3, 7, 2, 1};
        for (int what = 0; what < 6; what++) due.is(want[what], x.told(what), "told(" + what + ")");
        for (int w : new int[] {-1, 6, MIN, MAX}) due.is(SeamCell.OUTSIDE, x.told(w), "told(" + w + ")");
    }
}
