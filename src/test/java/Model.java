import java.util.ArrayDeque;
import java.util.ArrayList;
import java.util.HashSet;
import java.util.List;
import java.util.Set;
import java.util.TreeSet;

/** The document written down once more, plainly and by other ways than SeamCell's own. */
final class Model {
    private static final int UNKNOWN = -1, OUTSIDE = -2, STATE = -3, FULL = -4, NO = -5, NONE = -6;

    private int tableX = 0, tableY = 0, shiftX = 0, shiftY = 0;
    private int a = 200, b = 150, flatness = 100, gap = 20;
    private int turn = 10, travel = 20, lift = 5, cool = 10, homeX = 0, homeY = 300;
    private final List<int[]> bars = new ArrayList<>(), seams = new ArrayList<>();
    private List<int[]> row = new ArrayList<>();
    private final List<int[]> touches = new ArrayList<>();
    private final List<List<int[]>> acts = List.of(new ArrayList<>(), new ArrayList<>());
    private int[] ran = null;

    int table(int x, int y) {
        if (out(x, -200, 200) || out(y, -200, 200)) return OUTSIDE;
        tableX = x;
        tableY = y;
        return 1;
    }

    int arm(int newA, int newB) {
        if (out(newA, 10, 300) || out(newB, 10, 300)) return OUTSIDE;
        a = newA;
        b = newB;
        return 1;
    }

    int rules(int newFlatness, int newGap) {
        if (out(newFlatness, 0, 1000) || out(newGap, 0, 200)) return OUTSIDE;
        flatness = newFlatness;
        gap = newGap;
        return 1;
    }

    int times(int newTurn, int newTravel, int newLift, int newCool) {
        if (out(newTurn, 0, 100) || out(newTravel, 1, 100)) return OUTSIDE;
        if (out(newLift, 0, 50) || out(newCool, 1, 100)) return OUTSIDE;
        turn = newTurn;
        travel = newTravel;
        lift = newLift;
        cool = newCool;
        return 1;
    }

    int home(int x, int y) {
        if (out(x, -400, 400) || out(y, -400, 400)) return OUTSIDE;
        homeX = x;
        homeY = y;
        return 1;
    }

    int bar(int x0, int y0, int x1, int y1) {
        for (int n : new int[] {x0, y0, x1, y1}) if (out(n, -400, 400)) return OUTSIDE;
        if (!(x0 < x1 && y0 < y1)) return OUTSIDE;
        if (bars.size() == 4) return FULL;
        bars.add(new int[] {x0, y0, x1, y1});
        return bars.size();
    }

    int seam(int x0, int y0, int x1, int y1, int speed, int heat) {
        for (int n : new int[] {x0, y0, x1, y1}) if (out(n, -100, 100)) return OUTSIDE;
        if (out(speed, 1, 50) || out(heat, 0, 1000) || (x0 == x1 && y0 == y1)) return OUTSIDE;
        if (seams.size() == 8) return FULL;
        seams.add(new int[] {x0, y0, x1, y1, speed, heat});
        return seams.size() - 1;
    }

    int clear(int which) {
        if (out(which, 0, 4)) return UNKNOWN;
        int had = List.of(seams.size(), bars.size(), touches.size(),
            acts.get(0).size() + acts.get(1).size(), row.size()).get(which);
        if (which == 0) seams.clear();
        if (which == 1) bars.clear();
        if (which == 2) touches.clear();
        if (which == 3) acts.forEach(List::clear);
        if (which == 0 || which == 4) row.clear();
        return had;
    }

    int about(int seam, int what) {
        if (out(seam, 0, seams.size() - 1)) return -1001;
        if (out(what, 0, 7)) return -1002;
        int quarter = quarter(seam);
        int[] line = inCell(seam, Math.max(quarter, 0));
        return new int[] {length(seam), time(seam), seams.get(seam)[5], quarter,
            line[0], line[1], line[2], line[3]}[what];
    }

    int lacks(int seam, int q) {
        if (out(seam, 0, seams.size() - 1)) return UNKNOWN;
        if (out(q, 0, 3)) return OUTSIDE;
        return lack(seam, q);
    }

    int near(int one, int other) {
        if (out(one, 0, seams.size() - 1) || out(other, 0, seams.size() - 1)) return UNKNOWN;
        return isNear(one, other) ? 1 : 0;
    }

    int free(int x0, int y0, int x1, int y1) {
        for (int n : new int[] {x0, y0, x1, y1}) if (out(n, -1000, 1000)) return OUTSIDE;
        return isFree(new int[] {x0, y0, x1, y1}) ? 1 : 0;
    }

    int add(int seam, int way) {
        if (out(seam, 0, seams.size() - 1)) return UNKNOWN;
        if (out(way, 0, 1)) return OUTSIDE;
        if (row.stream().anyMatch(step -> step[0] == seam)) return STATE;
        if (quarter(seam) == NONE) return NO;
        row.add(new int[] {seam, way});
        return row.size();
    }

    int row(int k, int what) {
        if (out(k, 0, row.size() - 1)) return UNKNOWN;
        if (out(what, 0, 4)) return OUTSIDE;
        if (lacksQuarter(row)) return NO;
        return timed(row, new Moves()).get(k)[what];
    }

    int total() {
        if (lacksQuarter(row)) return NO;
        return end(row, new Moves());
    }

    int best() {
        if (seams.size() > 6) return FULL;
        for (int s = 0; s < seams.size(); s++) if (quarter(s) == NONE) return NO;
        Moves moves = new Moves();
        List<int[]> least = null;
        int leastEnd = Integer.MAX_VALUE;
        for (List<int[]> each : allRows(new ArrayList<>())) {
            int end = end(each, moves);
            if (end < leastEnd) least = each;
            leastEnd = Math.min(end, leastEnd);
        }
        row = new ArrayList<>(least);
        return leastEnd;
    }

    int touch(int axis, int v, int m, int err) {
        if (out(axis, 0, 1) || out(v, -100, 100) || out(m, -200, 200) || out(err, 0, 50)) return OUTSIDE;
        if (touches.size() == 20) return FULL;
        int[] touch = {axis, m - v - err, m - v + err};
        touches.add(touch);
        if (low(axis) > high(axis)) {
            touches.remove(touch);
            return NO;
        }
        return touches.size();
    }

    int shut(int axis, int side) {
        if (out(axis, 0, 1) || out(side, 0, 1)) return -1002;
        return side == 0 ? low(axis) : high(axis);
    }

    int shift() {
        shiftX = half(low(0) + high(0));
        shiftY = half(low(1) + high(1));
        return 1;
    }

    int shifted(int axis) {
        if (out(axis, 0, 1)) return -1002;
        return axis == 0 ? shiftX : shiftY;
    }

    int act(int arm, int kind, int n) {
        if (out(arm, 0, 1)) return UNKNOWN;
        if (out(kind, 0, 2)) return OUTSIDE;
        if (kind == 0 && out(n, 1, 50) || kind != 0 && out(n, 0, 4)) return OUTSIDE;
        List<int[]> its = acts.get(arm);
        boolean isIn = zones(arm, its.size()).contains(n);
        if (kind == 1 && isIn || kind == 2 && !isIn) return STATE;
        if (its.size() == 16) return FULL;
        its.add(new int[] {kind, n});
        return its.size();
    }

    int run() {
        int[] done = {0, 0}, busy = {0, 0}, waited = {0, 0};
        int ticks = 0;
        while (true) {
            boolean[] over = {ended(0, done, busy), ended(1, done, busy)};
            if (over[0] && over[1]) return note(1, ticks, done, waited);
            ticks++;
            boolean[] waits = {tick(0, done, busy), tick(1, done, busy)};
            for (int arm = 0; arm < 2; arm++) if (waits[arm]) waited[arm]++;
            if (waits[0] && waits[1] || waits[0] && over[1] || waits[1] && over[0]) {
                return note(0, ticks, done, waited);
            }
        }
    }

    int ran(int what) {
        if (out(what, 0, 4)) return OUTSIDE;
        return ran == null ? STATE : ran[what];
    }

    int web() {
        return pairs().size();
    }

    int lock(int i) {
        List<Integer> locks = new ArrayList<>();
        for (int pair : pairs()) {
            int d0 = pair / 100, d1 = pair % 100;
            boolean all = d0 == acts.get(0).size() && d1 == acts.get(1).size();
            if (!all && !can(0, d0, d1) && !can(1, d1, d0)) locks.add(pair);
        }
        if (i == -1) return locks.size();
        return out(i, 0, locks.size() - 1) ? NONE : locks.get(i);
    }

    int told(int what) {
        if (out(what, 0, 5)) return OUTSIDE;
        return List.of(seams.size(), bars.size(), touches.size(), acts.get(0).size(),
            acts.get(1).size(), row.size()).get(what);
    }

    /** For drawing calls: whether a seam would be taken and have a quarter. */
    boolean hasPlaceFor(int[] s) {
        int number = seam(s[0], s[1], s[2], s[3], s[4], s[5]);
        if (number < 0) return false;
        boolean good = quarter(number) != NONE;
        seams.remove(number);
        return good;
    }

    // ---- geometry

    private static boolean out(int n, int least, int most) {
        return n < least || n > most;
    }

    private int[] place(int x, int y, int q) {
        int px = x, py = y;
        for (int k = 0; k < q; k++) {
            int was = px;
            px = -py;
            py = was;
        }
        return new int[] {tableX + px + shiftX, tableY + py + shiftY};
    }

    private int[] inCell(int seam, int q) {
        int[] s = seams.get(seam);
        int[] first = place(s[0], s[1], q), last = place(s[2], s[3], q);
        return new int[] {first[0], first[1], last[0], last[1]};
    }

    private int lack(int seam, int q) {
        int[] line = inCell(seam, q);
        int rise = Math.abs(line[1] - line[3]), run = Math.abs(line[0] - line[2]);
        return (isWithin(line) ? 0 : 1) + (isFree(line) ? 0 : 2) + (100 * rise > flatness * run ? 4 : 0);
    }

    /** No place P + tD, t from 0 to 1, has |P + tD|^2 = C + 2Bt + At^2 too small or too great. */
    private boolean isWithin(int[] l) {
        long dx = l[2] - l[0], dy = l[3] - l[1];
        long qa = dx * dx + dy * dy, qb = l[0] * dx + l[1] * dy, qc = (long) l[0] * l[0] + (long) l[1] * l[1];
        long most = (long) (a + b) * (a + b), least = (long) (a - b) * (a - b);
        if (qc > most || qc + 2 * qb + qa > most) return false;
        if (qc < least || qc + 2 * qb + qa < least) return false;
        boolean turnsBetween = -qb > 0 && -qb < qa;
        return !turnsBetween || qc * qa - qb * qb >= least * qa;
    }

    /** Clips the line's t (from 0 to 1) to where it is inside each bar, in fractions. */
    private boolean isFree(int[] l) {
        for (int[] bar : bars) {
            long[] from = {-1, 1}, to = {2, 1};
            boolean[] off = {false};
            clip(l[0], l[2] - l[0], bar[0], bar[2], from, to, off);
            clip(l[1], l[3] - l[1], bar[1], bar[3], from, to, off);
            boolean some = from[0] * to[1] < to[0] * from[1] && from[0] < from[1] && to[0] > 0;
            if (some && !off[0]) return false;
        }
        return true;
    }

    private static void clip(long p, long d, long least, long most, long[] from, long[] to, boolean[] off) {
        if (d == 0) {
            if (p <= least || p >= most) off[0] = true;
            return;
        }
        long enters = d > 0 ? least - p : p - most, leaves = d > 0 ? most - p : p - least;
        long by = Math.abs(d);
        if (enters * from[1] > from[0] * by) {
            from[0] = enters;
            from[1] = by;
        }
        if (leaves * to[1] < to[0] * by) {
            to[0] = leaves;
            to[1] = by;
        }
    }

    private int quarter(int seam) {
        for (int q = 0; q < 4; q++) if (lack(seam, q) == 0) return q;
        return NONE;
    }

    private int length(int seam) {
        int[] s = seams.get(seam);
        int square = (s[0] - s[2]) * (s[0] - s[2]) + (s[1] - s[3]) * (s[1] - s[3]);
        int root = (int) Math.round(Math.sqrt(square));
        while (root * root >= square) root--;
        while (root * root < square) root++;
        return root;
    }

    private int time(int seam) {
        return -Math.floorDiv(-length(seam), seams.get(seam)[4]);
    }

    private boolean isNear(int one, int other) {
        int[] s = seams.get(one), t = seams.get(other);
        for (int i = 0; i < 4; i += 2) {
            for (int j = 0; j < 4; j += 2) {
                int dx = s[i] - t[j], dy = s[i + 1] - t[j + 1];
                if (dx * dx + dy * dy <= gap * gap) return true;
            }
        }
        return false;
    }

    // ---- rows

    private boolean lacksQuarter(List<int[]> steps) {
        return steps.stream().anyMatch(step -> quarter(step[0]) == NONE);
    }

    /** Ticks of turning and going, kept for one call as the search asks for them again and again. */
    private final class Moves {
        private final int[][] kept = new int[17][16];
        private final boolean[][] near = new boolean[8][8];

        Moves() {
            for (int s = 0; s < seams.size(); s++) {
                for (int t = 0; t < seams.size(); t++) near[s][t] = isNear(s, t);
            }
            for (int[] each : kept) java.util.Arrays.fill(each, -1);
        }

        int ticks(int[] from, int[] to) {
            int i = from == null ? 16 : 2 * from[0] + from[1], j = 2 * to[0] + to[1];
            if (kept[i][j] < 0) kept[i][j] = reckon(from, to);
            return kept[i][j];
        }

        private int reckon(int[] from, int[] to) {
            int q = from == null ? 0 : quarter(from[0]), then = quarter(to[0]);
            int oneWay = Math.floorMod(then - q, 4), otherWay = Math.floorMod(q - then, 4);
            int[] there = inCell(to[0], then);
            int[] line = {homeX, homeY, there[2 * to[1]], there[2 * to[1] + 1]};
            if (from != null) {
                int[] here = inCell(from[0], q);
                line[0] = from[1] == 0 ? here[2] : here[0];
                line[1] = from[1] == 0 ? here[3] : here[1];
            }
            int way = Math.max(Math.abs(line[0] - line[2]), Math.abs(line[1] - line[3]));
            int going = way / travel + (way % travel == 0 ? 0 : 1) + (isFree(line) ? 0 : lift + lift);
            return Math.min(oneWay, otherWay) * turn + going;
        }
    }

    /** For each step: seam, way, begin, end, rest. */
    private List<int[]> timed(List<int[]> steps, Moves moves) {
        List<int[]> all = new ArrayList<>();
        int clock = 0;
        int[] from = null;
        for (int[] step : steps) {
            int could = clock + moves.ticks(from, step), begin = could;
            for (int[] ahead : all) {
                if (moves.near[ahead[0]][step[0]]) {
                    begin = Math.max(begin, ahead[3] + seams.get(ahead[0])[5] / cool);
                }
            }
            clock = begin + time(step[0]);
            all.add(new int[] {step[0], step[1], begin, clock, begin - could});
            from = step;
        }
        return all;
    }

    private int end(List<int[]> steps, Moves moves) {
        return steps.isEmpty() ? 0 : timed(steps, moves).get(steps.size() - 1)[3];
    }

    /** All rows that begin with these steps, in the document's order. */
    private List<List<int[]>> allRows(List<int[]> begun) {
        List<List<int[]>> all = new ArrayList<>();
        if (begun.size() == seams.size()) all.add(begun);
        for (int s = 0; s < seams.size(); s++) {
            int seam = s;
            if (begun.stream().anyMatch(step -> step[0] == seam)) continue;
            for (int way = 0; way < 2; way++) {
                List<int[]> longer = new ArrayList<>(begun);
                longer.add(new int[] {s, way});
                all.addAll(allRows(longer));
            }
        }
        return all;
    }

    // ---- touches

    private int low(int axis) {
        return touches.stream().filter(t -> t[0] == axis).mapToInt(t -> t[1]).reduce(-20, Math::max);
    }

    private int high(int axis) {
        return touches.stream().filter(t -> t[0] == axis).mapToInt(t -> t[2]).reduce(20, Math::min);
    }

    private static int half(int n) {
        return n < 0 ? -(-n >> 1) : n >> 1;
    }

    // ---- two arms

    private Set<Integer> zones(int arm, int done) {
        Set<Integer> in = new HashSet<>();
        for (int[] act : acts.get(arm).subList(0, done)) {
            if (act[0] == 1) in.add(act[1]);
            if (act[0] == 2) in.remove(act[1]);
        }
        return in;
    }

    private boolean can(int arm, int done, int othersDone) {
        if (done == acts.get(arm).size()) return false;
        int[] next = acts.get(arm).get(done);
        return next[0] != 1 || !zones(1 - arm, othersDone).contains(next[1]);
    }

    private boolean ended(int arm, int[] done, int[] busy) {
        return busy[arm] == 0 && done[arm] == acts.get(arm).size();
    }

    /** Whether the arm waits in this tick. */
    private boolean tick(int arm, int[] done, int[] busy) {
        if (ended(arm, done, busy)) return false;
        boolean didNothing = true;
        while (busy[arm] == 0 && can(arm, done[arm], done[1 - arm])) {
            int[] next = acts.get(arm).get(done[arm]);
            didNothing = false;
            if (next[0] == 0) busy[arm] = next[1];
            if (next[0] == 0) break;
            done[arm]++;
        }
        if (busy[arm] == 0) return didNothing;
        busy[arm]--;
        if (busy[arm] == 0) done[arm]++;
        return false;
    }

    private int note(int answer, int ticks, int[] done, int[] waited) {
        ran = new int[] {ticks, done[0], done[1], waited[0], waited[1]};
        return answer;
    }

    private TreeSet<Integer> pairs() {
        TreeSet<Integer> met = new TreeSet<>();
        ArrayDeque<Integer> open = new ArrayDeque<>();
        met.add(0);
        open.add(0);
        while (!open.isEmpty()) {
            int pair = open.remove(), d0 = pair / 100, d1 = pair % 100;
            if (can(0, d0, d1) && met.add(pair + 100)) open.add(pair + 100);
            if (can(1, d1, d0) && met.add(pair + 1)) open.add(pair + 1);
        }
        return met;
    }
}
