/** Promises 22 to 27: each sentence that names an edge has a test of its own. */
public final class ArmsEdgesTest {
    private static final Due due = new Due();
    private static final int UNKNOWN = SeamCell.UNKNOWN, OUTSIDE = SeamCell.OUTSIDE, STATE = SeamCell.STATE;
    private static final int FULL = SeamCell.FULL, NONE = SeamCell.NONE;
    private static final int WORK = 0, ENTER = 1, LEAVE = 2;

    public static void main(String[] args) {
        actRanges();
        zones();
        seventeenthAct();
        actOrder();
        runWithoutActs();
        runOfOneArm();
        workTicks();
        actsAtOnce();
        armZeroFirst();
        waits();
        lockedBoth();
        lockedOne();
        runOfTheMost();
        ranEdges();
        webEdges();
        lockEdges();
        toldEdges();
        due.end();
    }

    private static SeamCell with(int[][] first, int[][] second) {
        SeamCell x = new SeamCell();
        for (int[] a : first) x.act(0, a[0], a[1]);
        for (int[] a : second) x.act(1, a[0], a[1]);
        return x;
    }

    /** What run() answers; then ticks, acts done of both, waits of both. */
    private static void runIs(SeamCell x, int answer, int... ran) {
        due.is(answer, x.run(), "run()");
        for (int what = 0; what < 5; what++) due.is(ran[what], x.ran(what), "ran(" + what + ")");
    }

    // ---- promise 22

    private static void actRanges() {
        due.says(22, "UNKNOWN: the ARM");
        due.range(0, 1, UNKNOWN, "act(n, 0, 1)", n -> new SeamCell().act(n, WORK, 1));
        due.says(22, "OUTSIDE: kind");
        due.range(0, 2, OUTSIDE, "act(0, n, 1)", n -> new SeamCell().act(0, n, 1));
        due.range(0, 2, OUTSIDE, "act(1, n, 4)", n -> new SeamCell().act(1, n, 4));
        due.is(2, with(new int[][] {{ENTER, 1}}, new int[][] {}).act(0, LEAVE, 1), "act(0, 2, 1)");
        due.is(OUTSIDE, with(new int[][] {{ENTER, 1}}, new int[][] {}).act(0, 3, 1), "act(0, 3, 1)");
        due.is(OUTSIDE, new SeamCell().act(0, -1, 1), "act(0, -1, 1)");
        due.says(22, "0 WORK of n ticks (1 to 50)");
        for (int arm = 0; arm <= 1; arm++) {
            int a = arm;
            due.range(1, 50, OUTSIDE, "act(arm, 0, n)", n -> new SeamCell().act(a, WORK, n));
        }
        due.says(22, "1 ENTER and 2 LEAVE a ZONE (0 to 4)");
        for (int arm = 0; arm <= 1; arm++) {
            int a = arm;
            due.range(0, 4, OUTSIDE, "act(arm, 1, n)", n -> new SeamCell().act(a, ENTER, n));
            due.range(0, 4, OUTSIDE, "act(arm, 2, n)", n -> new SeamCell().act(a, LEAVE, n));
        }
        due.says(22, "OUTSIDE. They change nothing");
        SeamCell x = new SeamCell();
        int[][] wrong = {{2, WORK, 1}, {-1, WORK, 1}, {0, 3, 1}, {0, -1, 1}, {0, WORK, 0}, {0, WORK, 51}, {1, ENTER, 5},
            {1, ENTER, -1}, {1, LEAVE, 5}, {1, LEAVE, 0}};
        for (int[] w : wrong) due.holds(x.act(w[0], w[1], w[2]) < 0, "act is not refused");
        due.is(0, x.told(3) + x.told(4), "told(3) and told(4)");
        due.is(1, x.web(), "web()");
    }

    private static void zones() {
        due.says(22, "Each ENTERS a ZONE only where it is not in it, LEAVES only one that it is in. STATE");
        for (int arm = 0; arm <= 1; arm++) {
            for (int zone = 0; zone <= 4; zone++) {
                SeamCell x = new SeamCell();
                due.is(STATE, x.act(arm, LEAVE, zone), "LEAVE of an arm without acts");
                due.is(1, x.act(arm, ENTER, zone), "ENTER");
                due.is(STATE, x.act(arm, ENTER, zone), "ENTER where it is in it");
                due.is(STATE, x.act(1 - arm, LEAVE, zone), "LEAVE where the other arm is in it");
                due.is(1, x.act(1 - arm, ENTER, zone), "ENTER where the other arm is in it");
                due.is(STATE, x.act(arm, LEAVE, (zone + 1) % 5), "LEAVE of another zone");
                due.is(2, x.act(arm, WORK, 5), "WORK between");
                due.is(3, x.act(arm, LEAVE, zone), "LEAVE");
                due.is(STATE, x.act(arm, LEAVE, zone), "LEAVE where it is not in it any more");
                due.is(4, x.act(arm, ENTER, zone), "ENTER once more");
                due.is(5, x.act(arm, ENTER, (zone + 1) % 5), "ENTER of another zone");
                due.is(6, x.act(arm, LEAVE, zone), "LEAVE out of turn");
                due.is(6, x.told(3 + arm), "told");
                due.is(1, x.told(4 - arm), "told of the other arm");
            }
        }
        SeamCell x = new SeamCell();
        for (int zone = 0; zone <= 4; zone++) due.is(zone + 1, x.act(0, ENTER, zone), "ENTER of all zones");
        for (int zone = 0; zone <= 4; zone++) due.is(STATE, x.act(0, ENTER, zone), "ENTER where it is in all");
        for (int zone = 0; zone <= 4; zone++) due.is(zone + 6, x.act(0, LEAVE, zone), "LEAVE of all zones");
    }

    private static void seventeenthAct() {
        due.says(22, "ACTS, 16 at most each. An ACT more of an ARM: how many it has. FULL");
        for (int arm = 0; arm <= 1; arm++) {
            SeamCell x = new SeamCell();
            x.act(arm, ENTER, 0);
            for (int k = 2; k <= 16; k++) due.is(k, x.act(arm, WORK, k), "act " + k);
            due.is(FULL, x.act(arm, WORK, 1), "act 17");
            due.is(FULL, x.act(arm, ENTER, 1), "act 17 into a zone");
            due.is(FULL, x.act(arm, LEAVE, 0), "act 17 out of a zone");
            due.is(16, x.told(3 + arm), "told");
            due.is(17, x.web(), "web()");
            due.is(1, x.act(1 - arm, ENTER, 0), "act 1 of the other arm");
            due.is(16, x.clear(3) - 1, "clear(3)");
            due.is(1, x.act(arm, WORK, 1), "act 1 behind clear(3)");
            due.is(2, x.act(arm, ENTER, 1), "act 2: the refused one did not enter");
        }
    }

    private static void actOrder() {
        due.says(22, "the first of these that fits: UNKNOWN, OUTSIDE, STATE, FULL");
        SeamCell x = new SeamCell();
        x.act(0, ENTER, 0);
        due.is(UNKNOWN, x.act(2, 3, 99), "act: UNKNOWN and OUTSIDE");
        due.is(UNKNOWN, x.act(-1, LEAVE, 0), "act: UNKNOWN and STATE");
        due.is(OUTSIDE, x.act(0, LEAVE, 5), "act: OUTSIDE and STATE");
        due.is(OUTSIDE, x.act(0, 3, 0), "act: kind 3 in a zone");
        for (int k = 2; k <= 16; k++) x.act(0, WORK, 1);
        due.is(UNKNOWN, x.act(2, WORK, 1), "act: UNKNOWN, arm 0 is FULL");
        due.is(OUTSIDE, x.act(0, WORK, 0), "act: OUTSIDE and FULL");
        due.is(OUTSIDE, x.act(0, WORK, 51), "act: OUTSIDE and FULL");
        due.is(OUTSIDE, x.act(0, 3, 1), "act: OUTSIDE and FULL");
        due.is(STATE, x.act(0, ENTER, 0), "act: STATE and FULL");
        due.is(STATE, x.act(0, LEAVE, 1), "act: STATE and FULL");
        due.is(16, x.told(3), "told(3)");
    }

    // ---- promise 23

    private static void runWithoutActs() {
        due.says(23, "THE RUN is over when both have done all (at once without ACTS)");
        runIs(new SeamCell(), 1, 0, 0, 0, 0, 0);
        SeamCell x = with(new int[][] {{WORK, 5}}, new int[][] {{WORK, 5}});
        x.clear(3);
        runIs(x, 1, 0, 0, 0, 0, 0);
    }

    private static void runOfOneArm() {
        due.says(23, "THE RUN is over when both have done all");
        int[][] acts = {{WORK, 3}, {ENTER, 2}, {WORK, 1}};
        runIs(with(acts, new int[][] {}), 1, 4, 3, 0, 0, 0);
        runIs(with(new int[][] {}, acts), 1, 4, 0, 3, 0, 0);
        runIs(with(new int[][] {{ENTER, 0}}, new int[][] {}), 1, 1, 1, 0, 0, 0);
        runIs(with(new int[][] {}, new int[][] {{ENTER, 0}}), 1, 1, 0, 1, 0, 0);
        runIs(with(new int[][] {{WORK, 2}}, new int[][] {{WORK, 7}}), 1, 7, 1, 1, 0, 0);
        runIs(with(new int[][] {{WORK, 7}}, new int[][] {{WORK, 2}}), 1, 7, 1, 1, 0, 0);
    }

    private static void workTicks() {
        due.says(23, "begins a WORK (its first tick is this one)");
        for (int n : new int[] {1, 2, 49, 50}) {
            runIs(with(new int[][] {{WORK, n}}, new int[][] {}), 1, n, 1, 0, 0, 0);
            runIs(with(new int[][] {}, new int[][] {{WORK, n}}), 1, n, 0, 1, 0, 0);
            runIs(with(new int[][] {{ENTER, 0}, {WORK, n}}, new int[][] {}), 1, n, 2, 0, 0, 0);
            due.says(23, "an ARM that WORKS has one tick less to do; else it does ACTS");
            runIs(with(new int[][] {{ENTER, 0}, {WORK, n}, {LEAVE, 0}}, new int[][] {}), 1, n + 1, 3, 0, 0, 0);
            runIs(with(new int[][] {{WORK, n}, {WORK, 1}}, new int[][] {}), 1, n + 1, 2, 0, 0, 0);
        }
    }

    private static void actsAtOnce() {
        due.says(23, "it does ACTS one behind the other that go at once (ENTER that need not wait, LEAVE)");
        int[][] eight = {{ENTER, 0}, {ENTER, 1}, {LEAVE, 0}, {ENTER, 0}, {LEAVE, 1}, {LEAVE, 0}, {ENTER, 4}, {LEAVE, 4}};
        runIs(with(eight, new int[][] {}), 1, 1, 8, 0, 0, 0);
        runIs(with(new int[][] {}, eight), 1, 1, 0, 8, 0, 0);
        runIs(with(eight, eight), 1, 1, 8, 8, 0, 0);
        int[][] nine = java.util.Arrays.copyOf(eight, 9);
        nine[8] = new int[] {WORK, 1};
        runIs(with(nine, new int[][] {}), 1, 1, 9, 0, 0, 0);
        due.says(23, "and begins a WORK");
        runIs(with(new int[][] {{WORK, 1}, {ENTER, 0}, {WORK, 1}, {LEAVE, 0}}, new int[][] {}), 1, 3, 4, 0, 0, 0);
    }

    private static void armZeroFirst() {
        due.says(23, "in each tick ARM 0, then ARM 1");
        int[][] take = {{ENTER, 3}, {WORK, 1}, {LEAVE, 3}};
        runIs(with(take, take), 1, 3, 3, 3, 0, 1);
        int[][] late = {{WORK, 1}, {ENTER, 3}, {WORK, 1}, {LEAVE, 3}};
        runIs(with(take, late), 1, 3, 3, 4, 0, 0);
        runIs(with(late, take), 1, 4, 4, 3, 1, 0);
        int[][] short0 = {{ENTER, 3}, {LEAVE, 3}};
        runIs(with(short0, short0), 1, 1, 2, 2, 0, 0);
    }

    private static void waits() {
        due.says(23, "While one is in a ZONE the other one waits ahead of its ENTER");
        for (int zone = 0; zone <= 4; zone++) {
            int other = (zone + 1) % 5;
            int[][] holds = {{ENTER, zone}, {WORK, 3}, {LEAVE, zone}};
            runIs(with(holds, new int[][] {{ENTER, zone}}), 1, 4, 3, 1, 0, 3);
            runIs(with(holds, new int[][] {{ENTER, other}}), 1, 4, 3, 1, 0, 0);
            runIs(with(new int[][] {{WORK, 1}, {ENTER, zone}}, holds), 1, 5, 2, 3, 3, 0);
            runIs(with(new int[][] {{WORK, 1}, {ENTER, other}}, holds), 1, 4, 2, 3, 0, 0);
        }
        due.says(23, "a tick in which it does nothing at all, as it has to wait, is one that it WAITS");
        int[][] holds = {{ENTER, 0}, {WORK, 3}, {LEAVE, 0}};
        runIs(with(holds, new int[][] {{ENTER, 1}, {ENTER, 0}, {WORK, 2}}), 1, 5, 3, 3, 0, 2);
        runIs(with(holds, new int[][] {{WORK, 1}, {ENTER, 0}}), 1, 4, 3, 2, 0, 2);
        runIs(with(holds, new int[][] {{WORK, 2}, {ENTER, 1}, {LEAVE, 1}, {ENTER, 0}}), 1, 4, 3, 4, 0, 0);
        due.says(23, "an ARM that has done all does not WAIT");
        runIs(with(new int[][] {{WORK, 9}}, new int[][] {{ENTER, 0}}), 1, 9, 1, 1, 0, 0);
    }

    private static void lockedBoth() {
        due.says(23, "LOCKED behind a tick in which both WAIT");
        int[][] first = {{ENTER, 0}, {WORK, 1}, {ENTER, 1}}, second = {{ENTER, 1}, {WORK, 1}, {ENTER, 0}};
        runIs(with(first, second), 0, 2, 2, 2, 1, 1);
        int[][] longer = {{ENTER, 1}, {WORK, 4}, {ENTER, 0}};
        runIs(with(first, longer), 0, 5, 2, 2, 4, 1);
        int[][] more = {{ENTER, 0}, {WORK, 6}, {ENTER, 1}, {WORK, 1}, {LEAVE, 1}, {LEAVE, 0}};
        runIs(with(more, longer), 0, 7, 2, 2, 1, 3);
        due.says(23, "a tick in which one of them does an ACT ahead of its wait is none of these");
        int[][] late = {{ENTER, 1}, {WORK, 1}, {ENTER, 2}, {ENTER, 0}};
        runIs(with(first, late), 0, 3, 2, 3, 2, 1);
        int[][] lateToo = {{ENTER, 0}, {WORK, 1}, {ENTER, 2}, {ENTER, 1}};
        runIs(with(lateToo, second), 0, 3, 3, 2, 1, 2);
    }

    private static void lockedOne() {
        due.says(23, "or one does and the other had done all ahead of that tick");
        runIs(with(new int[][] {{ENTER, 0}}, new int[][] {{ENTER, 0}}), 0, 2, 1, 0, 0, 2);
        runIs(with(new int[][] {{ENTER, 0}, {WORK, 1}}, new int[][] {{ENTER, 0}}), 0, 2, 2, 0, 0, 2);
        runIs(with(new int[][] {{ENTER, 0}, {WORK, 2}}, new int[][] {{ENTER, 0}}), 0, 3, 2, 0, 0, 3);
        runIs(with(new int[][] {{WORK, 1}, {ENTER, 0}}, new int[][] {{ENTER, 0}}), 0, 2, 1, 1, 1, 0);
        runIs(with(new int[][] {{WORK, 1}, {ENTER, 0}}, new int[][] {{ENTER, 0}, {WORK, 2}}), 0, 3, 1, 2, 2, 0);
        runIs(with(new int[][] {{WORK, 3}, {ENTER, 0}}, new int[][] {{ENTER, 0}}), 0, 4, 1, 1, 1, 0);
        due.says(23, "a RUN that was LOCKED goes on once the ACT that was lacking is there");
        SeamCell x = with(new int[][] {{ENTER, 0}}, new int[][] {{ENTER, 0}});
        runIs(x, 0, 2, 1, 0, 0, 2);
        x.act(0, LEAVE, 0);
        runIs(x, 1, 1, 2, 1, 0, 0);
    }

    private static void runOfTheMost() {
        due.says(23, "ACTS, 16 at most each: WORK of n ticks (1 to 50)");
        int[][] most = new int[16][];
        for (int k = 0; k < 16; k++) most[k] = new int[] {WORK, 50};
        runIs(with(most, new int[][] {}), 1, 800, 16, 0, 0, 0);
        most[0] = new int[] {ENTER, 0};
        most[15] = new int[] {LEAVE, 0};
        runIs(with(most, most), 1, 1401, 16, 16, 0, 700);
        most[15] = new int[] {WORK, 50};
        runIs(with(most, most), 0, 751, 16, 0, 0, 751);
    }

    // ---- promise 24

    private static SeamCell hasRun() {
        SeamCell x = with(new int[][] {{ENTER, 0}, {WORK, 3}, {LEAVE, 0}}, new int[][] {{ENTER, 0}, {WORK, 6}});
        x.run();
        return x;
    }

    private static void ranIs(SeamCell x, int... want) {
        for (int what = 0; what < 5; what++) due.is(want[what], x.ran(what), "ran(" + what + ")");
    }

    private static void ranEdges() {
        due.says(24, "OUTSIDE");
        due.range(0, 4, OUTSIDE, "ran(n)", n -> hasRun().ran(n));
        due.says(24, "STATE: there was none");
        for (int what = 0; what <= 4; what++) due.is(STATE, new SeamCell().ran(what), "ran(" + what + ")");
        SeamCell none = with(new int[][] {{WORK, 1}}, new int[][] {});
        due.is(STATE, none.ran(0), "ran(0) with acts, ahead of run()");
        none.web();
        none.lock(-1);
        due.is(STATE, none.ran(0), "ran(0) behind web() and lock(-1)");
        due.says(24, "the first of these that fits: OUTSIDE, STATE");
        for (int w : new int[] {-1, 5, Due.MIN, Due.MAX}) due.is(OUTSIDE, new SeamCell().ran(w), "ran(" + w + ")");
        due.says(24, "Of the latest run(): 0 ticks, 1 ACTS that ARM 0 has done, 2 ARM 1, 3 ticks that ARM 0 WAITS, 4 ARM 1");
        SeamCell x = hasRun();
        ranIs(x, 9, 3, 2, 0, 3);
        x.act(0, WORK, 1);
        x.act(1, WORK, 1);
        ranIs(x, 9, 3, 2, 0, 3);
        due.is(OUTSIDE, x.act(0, WORK, 51), "act outside");
        x.web();
        x.lock(-1);
        ranIs(x, 9, 3, 2, 0, 3);
        x.clear(3);
        ranIs(x, 9, 3, 2, 0, 3);
        x.run();
        ranIs(x, 0, 0, 0, 0, 0);
        x.act(0, WORK, 4);
        x.run();
        x.run();
        ranIs(x, 4, 1, 0, 0, 0);
    }

    // ---- promise 25

    private static void webEdges() {
        due.says(25, "pairs that can be come to from 0, 0");
        due.is(1, new SeamCell().web(), "web() without acts");
        int[][] take = {{ENTER, 0}, {LEAVE, 0}};
        due.is(3, with(take, new int[][] {}).web(), "web() of arm 0");
        due.is(3, with(new int[][] {}, take).web(), "web() of arm 1");
        due.is(8, with(take, take).web(), "web(): not both in one ZONE");
        due.is(9, with(take, new int[][] {{ENTER, 1}, {LEAVE, 1}}).web(), "web() with two zones");
        due.says(25, "by ACTS of one or the other in any order");
        int[][] keep = {{ENTER, 0}, {WORK, 1}, {WORK, 1}};
        due.is(7, with(keep, keep).web(), "web(): what lies behind is not come to");
        due.is(9, with(keep, take).web(), "web(): arm 1 ahead, or not at all");
        due.is(9, with(take, keep).web(), "web(): arm 0 ahead, or not at all");
        due.says(25, "(WORK counts as done at once)");
        due.is(2, with(new int[][] {{WORK, 50}}, new int[][] {}).web(), "web() of one WORK");
        due.is(4, with(new int[][] {{WORK, 50}}, new int[][] {{WORK, 1}}).web(), "web() of two");
        due.says(25, "How many pairs THE WEB has: the most");
        int[][] most = new int[16][];
        for (int k = 0; k < 16; k++) most[k] = new int[] {k % 2 == 0 ? ENTER : LEAVE, 0};
        due.is(17 * 17 - 8 * 8, with(most, most).web(), "web() in and out of a zone");
        for (int k = 0; k < 16; k++) most[k] = new int[] {WORK, 1};
        due.is(17 * 17, with(most, most).web(), "web() of the most");
        SeamCell x = with(most, most);
        x.clear(3);
        due.is(1, x.web(), "web() behind clear(3)");
        x.act(1, WORK, 1);
        due.is(2, x.web(), "web(): nothing is left of the web ahead");
    }

    // ---- promise 26

    private static void lockEdges() {
        due.says(26, "A pair is a LOCK, if not all are done and no ACT can be done");
        due.is(0, new SeamCell().lock(-1), "lock(-1) without acts");
        due.is(NONE, new SeamCell().lock(0), "lock(0) without acts");
        due.is(0, with(new int[][] {{ENTER, 0}}, new int[][] {}).lock(-1), "lock(-1): all are done");
        locks(with(new int[][] {{ENTER, 0}}, new int[][] {{ENTER, 0}}), 1, 100);
        locks(with(new int[][] {{ENTER, 0}}, new int[][] {{ENTER, 0}, {LEAVE, 0}}), 100);
        locks(with(new int[][] {{ENTER, 0}, {LEAVE, 0}}, new int[][] {{ENTER, 0}}), 1);
        locks(with(new int[][] {{ENTER, 0}, {LEAVE, 0}}, new int[][] {{ENTER, 0}, {LEAVE, 0}}));
        due.says(26, "a pair that cannot be come to is none");
        int[][] keep = {{ENTER, 0}, {WORK, 1}, {WORK, 1}};
        locks(with(keep, keep), 3, 300);
        int[][] one = {{ENTER, 0}, {ENTER, 1}, {ENTER, 2}}, two = {{ENTER, 0}, {ENTER, 2}, {ENTER, 1}};
        locks(with(one, two), 3, 300);
        due.says(26, "LOCK i (from 0), where one ARM has more ACTS");
        locks(with(keep, new int[][] {{ENTER, 0}}), 1, 300);
        locks(with(new int[][] {{ENTER, 0}}, keep), 3, 100);
        due.says(26, "by ACTS of ARM 0, then of ARM 1: 100 times these of ARM 0 and those of ARM 1");
        int[][] cross = {{ENTER, 0}, {ENTER, 1}, {LEAVE, 1}, {LEAVE, 0}, {ENTER, 0}, {ENTER, 1}, {LEAVE, 1}, {LEAVE, 0}};
        int[][] other = new int[8][];
        for (int k = 0; k < 8; k++) other[k] = new int[] {cross[k][0], 1 - cross[k][1]};
        locks(with(cross, other), 101, 105, 501, 505);
        farLocks();
        due.says(26, "NONE. (i = -1: how many.)");
        SeamCell x = with(new int[][] {{ENTER, 0}}, new int[][] {{ENTER, 0}});
        for (int i : new int[] {2, 3, 289, Due.MAX, -2, Due.MIN}) due.is(NONE, x.lock(i), "lock(" + i + ")");
        due.is(2, with(new int[][] {{ENTER, 0}}, new int[][] {{ENTER, 0}}).lock(-1), "lock(-1) ahead of all others");
        due.says(26, "LOCK i, as the ACTS are now");
        x.act(0, LEAVE, 0);
        due.is(1, x.lock(0), "lock(0) behind an act more");
        x.act(1, LEAVE, 0);
        due.is(0, x.lock(-1), "lock(-1) behind another act more");
        due.is(NONE, x.lock(0), "lock(0) behind another act more");
        x.clear(3);
        due.is(NONE, x.lock(0), "lock(0) behind clear(3)");
        x.act(0, ENTER, 2);
        x.act(1, ENTER, 2);
        due.is(100, x.lock(1), "lock(1) of other acts");
    }

    private static void locks(SeamCell x, int... want) {
        due.is(want.length == 0 ? NONE : want[0], x.lock(0), "lock(0)");
        due.is(want.length, x.lock(-1), "lock(-1)");
        for (int i = 0; i < want.length; i++) due.is(want[i], x.lock(i), "lock(" + i + ")");
        due.is(NONE, x.lock(want.length), "lock(" + want.length + ")");
    }

    /** Locks at the most acts that there may be. */
    private static void farLocks() {
        int[][] first = new int[16][], second = new int[16][];
        for (int k = 0; k < 16; k++) {
            first[k] = k == 0 ? new int[] {ENTER, 0} : new int[] {WORK, 1};
            second[k] = k == 15 ? new int[] {ENTER, 0} : new int[] {WORK, 1};
        }
        locks(with(first, second), 16, 1615);
        locks(with(second, first), 1516, 1600);
    }

    // ---- promise 27

    private static void toldEdges() {
        due.says(27, "OUTSIDE");
        due.range(0, 5, OUTSIDE, "told(n)", n -> new SeamCell().told(n));
        due.says(27, "How many: 0 SEAMS, 1 BARS, 2 TOUCHES, 3 ACTS of ARM 0, 4 of ARM 1, 5 SEAMS in the ROW");
        SeamCell x = new SeamCell();
        x.table(0, 150);
        int[] most = {8, 4, 20, 16, 16, 8};
        for (int what = 0; what <= 5; what++) {
            due.is(0, x.told(what), "told(" + what + ") of none");
            for (int k = 1; k <= most[what]; k++) {
                more(x, what, k - 1);
                due.is(k, x.told(what), "told(" + what + ")");
            }
            more(x, what, 0);
            for (int other = 0; other <= 5; other++) {
                due.is(other <= what ? most[other] : 0, x.told(other), "told(" + other + ") when all of " + what + " are told");
            }
        }
    }

    private static void more(SeamCell x, int what, int k) {
        if (what == 0) x.seam(0, k, 10, k, 1, 0);
        if (what == 1) x.bar(300, 300, 310, 310);
        if (what == 2) x.touch(k % 2, 0, 0, 5);
        if (what == 3) x.act(0, WORK, 1);
        if (what == 4) x.act(1, WORK, 1);
        if (what == 5) x.add(k, 0);
    }
}
