import java.util.Arrays;

/**
 * A cell that welds seams: a part on a turning table, an arm of two links, bars in the way,
 * rows of seams with the least time, touches that tell how far a part is shifted, and two arms
 * that share zones.
 */
public final class SeamCell {
    public static final int UNKNOWN = -1, OUTSIDE = -2, STATE = -3, FULL = -4, NO = -5, NONE = -6;

    // Calls whose answers may be small negative numbers are refused by numbers far below these.
    private static final int FAR_UNKNOWN = -1001, FAR_OUTSIDE = -1002;

    private static final int MOST_BARS = 4, MOST_SEAMS = 8, MOST_SEARCHED = 6;
    private static final int MOST_TOUCHES = 20, MOST_ACTS = 16, QUARTERS = 4;
    private static final int LACKS_REACH = 1, LACKS_FREE = 2, LACKS_FLAT = 4;
    private static final int WORK = 0, ENTER = 1, LEAVE = 2;

    private final Cell cell;
    private final Part part;
    private final Pace pace;
    private final Plan plan;
    private final Search search;
    private final Touches touches;
    private final Crew crew;

    public SeamCell() {
        cell = new Cell();
        part = new Part(cell);
        pace = new Pace(cell);
        plan = new Plan(part, pace);
        search = new Search(part, pace);
        touches = new Touches();
        crew = new Crew();
    }

    // ---- 1 the cell

    public int table(int x, int y) {
        if (!isFromTo(x, -200, 200) || !isFromTo(y, -200, 200)) return OUTSIDE;
        cell.middleX = x;
        cell.middleY = y;
        return 1;
    }

    public int arm(int a, int b) {
        if (!isFromTo(a, 10, 300) || !isFromTo(b, 10, 300)) return OUTSIDE;
        cell.linkA = a;
        cell.linkB = b;
        return 1;
    }

    public int rules(int flatness, int gap) {
        if (!isFromTo(flatness, 0, 1000) || !isFromTo(gap, 0, 200)) return OUTSIDE;
        cell.flatness = flatness;
        part.gap = gap;
        return 1;
    }

    public int times(int turn, int travel, int lift, int cool) {
        if (!isFromTo(turn, 0, 100) || !isFromTo(travel, 1, 100)) return OUTSIDE;
        if (!isFromTo(lift, 0, 50) || !isFromTo(cool, 1, 100)) return OUTSIDE;
        pace.turn = turn;
        pace.travel = travel;
        pace.lift = lift;
        pace.cool = cool;
        return 1;
    }

    public int home(int x, int y) {
        if (!isFromTo(x, -400, 400) || !isFromTo(y, -400, 400)) return OUTSIDE;
        pace.homeX = x;
        pace.homeY = y;
        return 1;
    }

    public int bar(int x0, int y0, int x1, int y1) {
        if (!areFromTo(x0, y0, x1, y1, -400, 400) || x0 >= x1 || y0 >= y1) return OUTSIDE;
        if (cell.barCount >= MOST_BARS) return FULL;
        cell.putBar(x0, y0, x1, y1);
        return cell.barCount;
    }

    public int seam(int x0, int y0, int x1, int y1, int speed, int heat) {
        if (!areFromTo(x0, y0, x1, y1, -100, 100) || (x0 == x1 && y0 == y1)) return OUTSIDE;
        if (!isFromTo(speed, 1, 50) || !isFromTo(heat, 0, 1000)) return OUTSIDE;
        if (part.count >= MOST_SEAMS) return FULL;
        part.seams[part.count].draw(x0, y0, x1, y1, speed, heat);
        part.count++;
        return part.count - 1;
    }

    public int clear(int which) {
        if (!isFromTo(which, 0, 4)) return UNKNOWN;
        int had;
        if (which == 0) {
            had = part.count;
            part.count = 0;
            plan.count = 0;
        } else if (which == 1) {
            had = cell.barCount;
            cell.barCount = 0;
        } else if (which == 2) {
            had = touches.count;
            touches.forget();
        } else if (which == 3) {
            had = crew.first.count + crew.second.count;
            crew.first.count = 0;
            crew.second.count = 0;
        } else {
            had = plan.count;
            plan.count = 0;
        }
        return had;
    }

    public int about(int seam, int what) {
        if (!part.has(seam)) return FAR_UNKNOWN;
        if (!isFromTo(what, 0, 7)) return FAR_OUTSIDE;
        if (what == 0) return part.seams[seam].length;
        if (what == 1) return part.seams[seam].time;
        if (what == 2) return part.seams[seam].heat;
        int quarter = part.quarterOf(seam);
        if (what == 3) return quarter;
        int shown = quarter == NONE ? 0 : quarter;
        int end = what < 6 ? 0 : 1;
        return what % 2 == 0 ? part.endX(seam, end, shown) : part.endY(seam, end, shown);
    }

    public int lacks(int seam, int q) {
        if (!part.has(seam)) return UNKNOWN;
        if (!isFromTo(q, 0, QUARTERS - 1)) return OUTSIDE;
        return part.lacksAt(seam, q);
    }

    public int near(int a, int b) {
        if (!part.has(a) || !part.has(b)) return UNKNOWN;
        return part.areNear(a, b) ? 1 : 0;
    }

    public int free(int x0, int y0, int x1, int y1) {
        if (!areFromTo(x0, y0, x1, y1, -1000, 1000)) return OUTSIDE;
        return cell.isFree(x0, y0, x1, y1) ? 1 : 0;
    }

    // ---- 2 rows

    public int add(int seam, int way) {
        if (!part.has(seam)) return UNKNOWN;
        if (!isFromTo(way, 0, 1)) return OUTSIDE;
        if (plan.holds(seam)) return STATE;
        if (part.quarterOf(seam) == NONE) return NO;
        plan.append(seam, way);
        return plan.count;
    }

    public int row(int k, int what) {
        if (k < 0 || k >= plan.count) return UNKNOWN;
        if (!isFromTo(what, 0, 4)) return OUTSIDE;
        if (!plan.reckon()) return NO;
        if (what == 0) return plan.seam[k];
        if (what == 1) return plan.way[k];
        if (what == 2) return plan.begin[k];
        if (what == 3) return plan.end[k];
        return plan.rested[k];
    }

    public int total() {
        return plan.reckon() ? plan.lastEnd() : NO;
    }

    public int best() {
        if (part.count > MOST_SEARCHED) return FULL;
        if (!part.allHaveQuarters()) return NO;
        search.go();
        plan.count = 0;
        for (int k = 0; k < search.count; k++) {
            plan.append(search.found[k] / 2, search.found[k] % 2);
        }
        return search.foundEnd;
    }

    // ---- 3 touches

    public int touch(int axis, int v, int m, int err) {
        if (!isFromTo(axis, 0, 1) || !isFromTo(v, -100, 100)) return OUTSIDE;
        if (!isFromTo(m, -200, 200) || !isFromTo(err, 0, 50)) return OUTSIDE;
        if (touches.count >= MOST_TOUCHES) return FULL;
        return touches.narrow(axis, m - v - err, m - v + err) ? touches.count : NO;
    }

    public int shut(int axis, int side) {
        if (!isFromTo(axis, 0, 1) || !isFromTo(side, 0, 1)) return FAR_OUTSIDE;
        return side == 0 ? touches.low[axis] : touches.high[axis];
    }

    public int shift() {
        cell.shiftX = touches.middle(0);
        cell.shiftY = touches.middle(1);
        return 1;
    }

    public int shifted(int axis) {
        if (!isFromTo(axis, 0, 1)) return FAR_OUTSIDE;
        return axis == 0 ? cell.shiftX : cell.shiftY;
    }

    // ---- 4 two arms

    public int act(int arm, int kind, int n) {
        if (!isFromTo(arm, 0, 1)) return UNKNOWN;
        if (!isFromTo(kind, WORK, LEAVE)) return OUTSIDE;
        if (kind == WORK ? !isFromTo(n, 1, 50) : !isFromTo(n, 0, 4)) return OUTSIDE;
        Acts acts = arm == 0 ? crew.first : crew.second;
        if (kind == ENTER && acts.endsIn(n)) return STATE;
        if (kind == LEAVE && !acts.endsIn(n)) return STATE;
        if (acts.count >= MOST_ACTS) return FULL;
        acts.append(kind, n);
        return acts.count;
    }

    public int run() {
        return crew.work() ? 1 : 0;
    }

    public int ran(int what) {
        if (!isFromTo(what, 0, 4)) return OUTSIDE;
        if (!crew.hasRun) return STATE;
        return crew.latest[what];
    }

    public int web() {
        return crew.countPairs();
    }

    public int lock(int i) {
        if (i < -1) return NONE;
        return i == -1 ? crew.countLocks() : crew.findLock(i);
    }

    public int told(int what) {
        if (!isFromTo(what, 0, 5)) return OUTSIDE;
        if (what == 0) return part.count;
        if (what == 1) return cell.barCount;
        if (what == 2) return touches.count;
        if (what == 3) return crew.first.count;
        if (what == 4) return crew.second.count;
        return plan.count;
    }

    // ---- numbers

    private static boolean isFromTo(int n, int least, int most) {
        return n >= least && n <= most;
    }

    private static boolean areFromTo(int a, int b, int c, int d, int least, int most) {
        return isFromTo(a, least, most) && isFromTo(b, least, most)
            && isFromTo(c, least, most) && isFromTo(d, least, most);
    }

    private static int cutDown(int n, int by) {
        return by < 1 ? 0 : n / by;
    }

    private static int cutUp(int n, int by) {
        return by < 1 ? 0 : (n + by - 1) / by;
    }

    private static int square(int n) {
        return n * n;
    }

    /** The least whole number whose square is not below n; n is at most 2 * 200 * 200. */
    private static int rootUp(int n) {
        int root = 0;
        while (root < 300 && square(root) < n) root++;
        return root;
    }

    /** Where the part's places are in the cell, how far the arm reaches, and what is in the way. */
    private static final class Cell {
        int middleX, middleY, shiftX, shiftY;
        int linkA = 200, linkB = 150, flatness = 100;
        int barCount;
        final int[] barX0 = new int[MOST_BARS], barY0 = new int[MOST_BARS];
        final int[] barX1 = new int[MOST_BARS], barY1 = new int[MOST_BARS];

        void putBar(int x0, int y0, int x1, int y1) {
            if (barCount >= MOST_BARS) return;
            barX0[barCount] = x0;
            barY0[barCount] = y0;
            barX1[barCount] = x1;
            barY1[barCount] = y1;
            barCount++;
        }

        int xOf(int x, int y, int q) {
            int turned = q == 0 ? x : q == 1 ? -y : q == 2 ? -x : y;
            return middleX + turned + shiftX;
        }

        int yOf(int x, int y, int q) {
            int turned = q == 0 ? y : q == 1 ? x : q == 2 ? -y : -x;
            return middleY + turned + shiftY;
        }

        boolean isFlat(int x0, int y0, int x1, int y1) {
            return Math.abs(y1 - y0) * 100 <= flatness * Math.abs(x1 - x0);
        }

        boolean isWithin(int x0, int y0, int x1, int y1) {
            int first = square(x0) + square(y0);
            int last = square(x1) + square(y1);
            // The farthest place of a straight line is always one of its ends.
            if (Math.max(first, last) > square(linkA + linkB)) return false;
            int dx = x1 - x0, dy = y1 - y0;
            int along = -(x0 * dx + y0 * dy);
            int length = square(dx) + square(dy);
            int inner = square(linkA - linkB);
            if (along <= 0) return first >= inner;
            if (along >= length) return last >= inner;
            // The nearest place lies between the ends: compared times the length, to stay whole.
            long across = (long) x0 * dy - (long) y0 * dx;
            return across * across >= (long) inner * length;
        }

        boolean isFree(int x0, int y0, int x1, int y1) {
            for (int i = 0; i < barCount; i++) {
                if (entersBar(i, x0, y0, x1, y1)) return false;
            }
            return true;
        }

        /** Whether a line has a point inside bar i: neither an axis nor the line itself parts them. */
        private boolean entersBar(int i, int x0, int y0, int x1, int y1) {
            if (Math.max(x0, x1) <= barX0[i] || Math.min(x0, x1) >= barX1[i]) return false;
            if (Math.max(y0, y1) <= barY0[i] || Math.min(y0, y1) >= barY1[i]) return false;
            int dx = x1 - x0, dy = y1 - y0;
            // A line that is one place has no sides.
            if (dx == 0 && dy == 0) return true;
            int a = dx * (barY0[i] - y0) - dy * (barX0[i] - x0);
            int b = dx * (barY0[i] - y0) - dy * (barX1[i] - x0);
            int c = dx * (barY1[i] - y0) - dy * (barX0[i] - x0);
            int d = dx * (barY1[i] - y0) - dy * (barX1[i] - x0);
            int most = Math.max(Math.max(a, b), Math.max(c, d));
            int least = Math.min(Math.min(a, b), Math.min(c, d));
            return least < 0 && most > 0;
        }
    }

    /** A straight line of the part; made once and drawn anew. */
    private static final class Seam {
        int x0, y0, x1, y1;
        int length, time, heat;

        void draw(int fromX, int fromY, int toX, int toY, int speed, int warmth) {
            x0 = fromX;
            y0 = fromY;
            x1 = toX;
            y1 = toY;
            length = rootUp(square(toX - fromX) + square(toY - fromY));
            time = cutUp(length, speed);
            heat = warmth;
        }
    }

    /** The seams, and where each of them lies flat, within reach and free. */
    private static final class Part {
        final Cell cell;
        final Seam[] seams = new Seam[MOST_SEAMS];
        int count, gap = 20;

        Part(Cell cell) {
            this.cell = cell;
            for (int i = 0; i < MOST_SEAMS; i++) seams[i] = new Seam();
        }

        boolean has(int s) {
            return s >= 0 && s < count;
        }

        int endX(int s, int end, int q) {
            Seam it = seams[s];
            return end == 0 ? cell.xOf(it.x0, it.y0, q) : cell.xOf(it.x1, it.y1, q);
        }

        int endY(int s, int end, int q) {
            Seam it = seams[s];
            return end == 0 ? cell.yOf(it.x0, it.y0, q) : cell.yOf(it.x1, it.y1, q);
        }

        int lacksAt(int s, int q) {
            int x0 = endX(s, 0, q), y0 = endY(s, 0, q);
            int x1 = endX(s, 1, q), y1 = endY(s, 1, q);
            int lack = 0;
            if (!cell.isWithin(x0, y0, x1, y1)) lack += LACKS_REACH;
            if (!cell.isFree(x0, y0, x1, y1)) lack += LACKS_FREE;
            if (!cell.isFlat(x0, y0, x1, y1)) lack += LACKS_FLAT;
            return lack;
        }

        int quarterOf(int s) {
            for (int q = 0; q < QUARTERS; q++) {
                if (lacksAt(s, q) == 0) return q;
            }
            return NONE;
        }

        boolean allHaveQuarters() {
            for (int s = 0; s < count; s++) {
                if (quarterOf(s) == NONE) return false;
            }
            return true;
        }

        boolean areNear(int a, int b) {
            Seam one = seams[a], other = seams[b];
            return areClose(one.x0, one.y0, other.x0, other.y0)
                || areClose(one.x0, one.y0, other.x1, other.y1)
                || areClose(one.x1, one.y1, other.x0, other.y0)
                || areClose(one.x1, one.y1, other.x1, other.y1);
        }

        private boolean areClose(int ax, int ay, int bx, int by) {
            return square(ax - bx) + square(ay - by) <= square(gap);
        }
    }

    /** How long turning, going and cooling take. */
    private static final class Pace {
        final Cell cell;
        int turn = 10, travel = 20, lift = 5, cool = 10;
        int homeX = 0, homeY = 300;

        Pace(Cell cell) {
            this.cell = cell;
        }

        int turnTicks(int from, int to) {
            int quarters = Math.abs(from - to);
            // Three quarters one way are one the other way.
            return turn * Math.min(quarters, QUARTERS - quarters);
        }

        int goTicks(int x0, int y0, int x1, int y1) {
            int ticks = cutUp(Math.max(Math.abs(x1 - x0), Math.abs(y1 - y0)), travel);
            return cell.isFree(x0, y0, x1, y1) ? ticks : ticks + 2 * lift;
        }

        int restTicks(int heat) {
            return cutDown(heat, cool);
        }
    }

    /** The row, and when each of its seams begins and ends as all is told now. */
    private static final class Plan {
        final Part part;
        final Pace pace;
        final int[] seam = new int[MOST_SEAMS], way = new int[MOST_SEAMS];
        final int[] begin = new int[MOST_SEAMS], end = new int[MOST_SEAMS];
        final int[] rested = new int[MOST_SEAMS];
        int count;

        Plan(Part part, Pace pace) {
            this.part = part;
            this.pace = pace;
        }

        boolean holds(int s) {
            for (int k = 0; k < count; k++) {
                if (seam[k] == s) return true;
            }
            return false;
        }

        void append(int s, int w) {
            if (count >= MOST_SEAMS) return;
            seam[count] = s;
            way[count] = w;
            count++;
        }

        /** Works out the times anew, as anything may have changed; false: a seam has no quarter. */
        boolean reckon() {
            int clock = 0, quarter = 0, x = pace.homeX, y = pace.homeY;
            for (int k = 0; k < count; k++) {
                int to = part.quarterOf(seam[k]);
                if (to == NONE) return false;
                int startX = part.endX(seam[k], way[k], to);
                int startY = part.endY(seam[k], way[k], to);
                int there = clock + pace.turnTicks(quarter, to) + pace.goTicks(x, y, startX, startY);
                begin[k] = Math.max(there, cooledFor(k));
                rested[k] = begin[k] - there;
                end[k] = begin[k] + part.seams[seam[k]].time;
                clock = end[k];
                quarter = to;
                x = part.endX(seam[k], 1 - way[k], to);
                y = part.endY(seam[k], 1 - way[k], to);
            }
            return true;
        }

        /** When all that is ahead of place k and near it has cooled. */
        private int cooledFor(int k) {
            int cooled = 0;
            for (int j = 0; j < k; j++) {
                if (part.areNear(seam[j], seam[k])) {
                    int rest = pace.restTicks(part.seams[seam[j]].heat);
                    cooled = Math.max(cooled, end[j] + rest);
                }
            }
            return cooled;
        }

        int lastEnd() {
            return count < 1 ? 0 : end[count - 1];
        }
    }

    /**
     * Looks for the best row. A step is 2 * seam + way, so that steps in rising order come in the
     * document's order and the first row found with the least end is the one that is due.
     */
    private static final class Search {
        private static final int STEPS = 2 * MOST_SEARCHED, HOME = STEPS;
        // Far behind the end of any row: six seams take some 10,000 ticks at most.
        private static final int NEVER = 1000000;

        final Part part;
        final Pace pace;
        final int[] quarter = new int[MOST_SEARCHED], time = new int[MOST_SEARCHED];
        final int[] rest = new int[MOST_SEARCHED], nearMask = new int[MOST_SEARCHED];
        // The least from the end of any other seam to the begin of this one, and from the end of
        // this one to the begin of any other, if one comes right behind the other.
        final int[] leastAhead = new int[MOST_SEARCHED], leastBehind = new int[MOST_SEARCHED];
        final int[] cooled = new int[MOST_SEARCHED];
        final int[][] move = new int[STEPS + 1][STEPS];
        final int[] steps = new int[MOST_SEARCHED], found = new int[MOST_SEARCHED];
        int count, foundEnd;

        Search(Part part, Pace pace) {
            this.part = part;
            this.pace = pace;
        }

        /** Of all seams, each of which has a quarter. */
        void go() {
            count = Math.min(part.count, MOST_SEARCHED);
            noteSeams();
            noteMoves();
            noteLeasts();
            foundEnd = NEVER;
            extend(this, 0, 0, 0);
        }

        private void noteSeams() {
            for (int s = 0; s < count; s++) {
                quarter[s] = part.quarterOf(s);
                time[s] = part.seams[s].time;
                rest[s] = pace.restTicks(part.seams[s].heat);
                nearMask[s] = 0;
                for (int other = 0; other < count; other++) {
                    if (part.areNear(s, other)) nearMask[s] |= 1 << other;
                }
            }
        }

        private void noteMoves() {
            noteMovesFrom(HOME, 0, pace.homeX, pace.homeY);
            for (int from = 0; from < 2 * count; from++) {
                int s = from / 2, q = quarter[s], last = 1 - from % 2;
                noteMovesFrom(from, q, part.endX(s, last, q), part.endY(s, last, q));
            }
        }

        private void noteMovesFrom(int from, int q, int x, int y) {
            for (int to = 0; to < 2 * count; to++) {
                int s = to / 2, first = to % 2;
                int startX = part.endX(s, first, quarter[s]);
                int startY = part.endY(s, first, quarter[s]);
                move[from][to] = pace.turnTicks(q, quarter[s]) + pace.goTicks(x, y, startX, startY);
            }
        }

        private void noteLeasts() {
            for (int s = 0; s < count; s++) {
                leastAhead[s] = NEVER;
                leastBehind[s] = NEVER;
            }
            for (int from = 0; from < 2 * count; from++) {
                for (int to = 0; to < 2 * count; to++) {
                    int ahead = from / 2, behind = to / 2;
                    if (ahead == behind) continue;
                    int between = move[from][to];
                    if (areNear(ahead, behind)) between = Math.max(between, rest[ahead]);
                    leastAhead[behind] = Math.min(leastAhead[behind], between);
                    leastBehind[ahead] = Math.min(leastBehind[ahead], between);
                }
            }
        }

        /** The least that all seams not in used add to a row that ends with seam last. */
        private int leastLeft(int last, int used) {
            if (used == (1 << count) - 1) return 0;
            int byAhead = 0, byBehind = leastBehind[last], most = 0;
            for (int s = 0; s < count; s++) {
                if ((used >> s & 1) != 0) continue;
                byAhead += time[s] + leastAhead[s];
                byBehind += time[s] + leastBehind[s];
                most = Math.max(most, leastBehind[s]);
            }
            // One of them will be the row's last, and nothing comes behind that one.
            return Math.max(byAhead, byBehind - most);
        }

        private boolean areNear(int s, int other) {
            return (nearMask[s] >> other & 1) != 0;
        }

        /** Tries every step behind the first depth ones, whose seams are the bits of used. */
        private static void extend(Search it, int depth, int clock, int used) {
            if (depth >= it.count || depth >= MOST_SEARCHED) {
                it.keep(clock);
                return;
            }
            int from = depth == 0 ? HOME : it.steps[depth - 1];
            for (int to = 0; to < 2 * it.count; to++) {
                int s = to / 2;
                if ((used >> s & 1) != 0) continue;
                int then = used | 1 << s;
                int begin = Math.max(clock + it.move[from][to], it.cooledFor(s, depth));
                int end = begin + it.time[s];
                // Rows from here on come later in order: they would have to be truly better.
                if (end + it.leastLeft(s, then) >= it.foundEnd) continue;
                it.steps[depth] = to;
                it.cooled[s] = end + it.rest[s];
                extend(it, depth + 1, end, then);
            }
        }

        private int cooledFor(int s, int depth) {
            int latest = 0;
            for (int k = 0; k < depth; k++) {
                int ahead = steps[k] / 2;
                if (areNear(s, ahead)) latest = Math.max(latest, cooled[ahead]);
            }
            return latest;
        }

        private void keep(int end) {
            foundEnd = end;
            for (int k = 0; k < count; k++) found[k] = steps[k];
        }
    }

    /** What the touches leave of where the part may be, on both axes. */
    private static final class Touches {
        private static final int WIDEST = 20;

        final int[] low = {-WIDEST, -WIDEST}, high = {WIDEST, WIDEST};
        int count;

        void forget() {
            count = 0;
            Arrays.fill(low, -WIDEST);
            Arrays.fill(high, WIDEST);
        }

        /** Shuts an axis in further; false: nothing would be left, so nothing is changed. */
        boolean narrow(int axis, int from, int to) {
            if (axis < 0 || axis > 1) return false;
            int newLow = Math.max(low[axis], from);
            int newHigh = Math.min(high[axis], to);
            if (newLow > newHigh) return false;
            low[axis] = newLow;
            high[axis] = newHigh;
            count++;
            return true;
        }

        int middle(int axis) {
            return axis < 0 || axis > 1 ? 0 : (low[axis] + high[axis]) / 2;
        }
    }

    /** What one arm has to do, and how far it is in a run. */
    private static final class Acts {
        final int[] kinds = new int[MOST_ACTS], sizes = new int[MOST_ACTS];
        // Bit z of element k: the arm is in zone z when it has done k acts.
        final int[] zonesBehind = new int[MOST_ACTS + 1];
        int count;
        int done, workLeft, waits;

        boolean endsIn(int zone) {
            return (zonesBehind[count] >> zone & 1) != 0;
        }

        void append(int kind, int n) {
            if (count >= MOST_ACTS) return;
            kinds[count] = kind;
            sizes[count] = n;
            int zones = zonesBehind[count];
            if (kind == ENTER) zones |= 1 << n;
            if (kind == LEAVE) zones &= ~(1 << n);
            count++;
            zonesBehind[count] = zones;
        }

        /** Whether act k can be done while the other arm is in the zones taken. */
        boolean goes(int k, int taken) {
            if (k < 0 || k >= count) return false;
            return kinds[k] != ENTER || (taken >> sizes[k] & 1) == 0;
        }

        void begin() {
            done = 0;
            workLeft = 0;
            waits = 0;
        }

        boolean isThrough() {
            return done >= count && workLeft == 0;
        }

        int zonesNow() {
            return zonesBehind[done];
        }

        /** One tick of a run; answers whether the arm waits in it. */
        boolean tick(int taken) {
            if (workLeft > 0) {
                workLeft--;
                return false;
            }
            int before = done;
            while (done < count && kinds[done] != WORK && goes(done, taken)) done++;
            if (done < count && kinds[done] == WORK) {
                workLeft = sizes[done] - 1;
                done++;
            }
            boolean waiting = done == before && done < count;
            if (waiting) waits++;
            return waiting;
        }
    }

    /** Both arms: their runs, and the web of all that they could have done. */
    private static final class Crew {
        // In each tick of a run but the last an act or a tick of work is done: 1600 and 32 at most.
        private static final int MOST_TICKS = 10000;
        private static final int WIDTH = MOST_ACTS + 1;

        final Acts first = new Acts(), second = new Acts();
        final boolean[] reached = new boolean[WIDTH * WIDTH];
        final int[] latest = new int[5];
        boolean hasRun;

        /** Runs both arms; false: they are locked. */
        boolean work() {
            first.begin();
            second.begin();
            boolean locked = false;
            int ticks = 0;
            while (ticks < MOST_TICKS && !locked && !(first.isThrough() && second.isThrough())) {
                boolean firstStands = first.isThrough(), secondStands = second.isThrough();
                // Both have to have their tick, so neither call may be skipped.
                boolean firstWaits = first.tick(second.zonesNow());
                boolean secondWaits = second.tick(first.zonesNow());
                locked = (firstWaits || firstStands) && (secondWaits || secondStands);
                ticks++;
            }
            note(ticks);
            return !locked;
        }

        private void note(int ticks) {
            hasRun = true;
            latest[0] = ticks;
            latest[1] = first.done;
            latest[2] = second.done;
            latest[3] = first.waits;
            latest[4] = second.waits;
        }

        int countPairs() {
            weave();
            int pairs = 0;
            for (int i = 0; i <= first.count; i++) {
                for (int j = 0; j <= second.count; j++) {
                    if (reached[i * WIDTH + j]) pairs++;
                }
            }
            return pairs;
        }

        int countLocks() {
            weave();
            int locks = 0;
            for (int i = 0; i <= first.count; i++) {
                for (int j = 0; j <= second.count; j++) {
                    if (isLock(i, j)) locks++;
                }
            }
            return locks;
        }

        int findLock(int index) {
            weave();
            int ahead = 0;
            for (int i = 0; i <= first.count; i++) {
                for (int j = 0; j <= second.count; j++) {
                    if (!isLock(i, j)) continue;
                    if (ahead == index) return 100 * i + j;
                    ahead++;
                }
            }
            return NONE;
        }

        /** Marks all pairs that can be come to; each is come to from pairs with one act less. */
        private void weave() {
            for (int i = 0; i <= first.count; i++) {
                for (int j = 0; j <= second.count; j++) {
                    boolean byFirst = i > 0 && reached[(i - 1) * WIDTH + j] && firstGoes(i - 1, j);
                    boolean bySecond = j > 0 && reached[i * WIDTH + j - 1] && secondGoes(i, j - 1);
                    reached[i * WIDTH + j] = (i == 0 && j == 0) || byFirst || bySecond;
                }
            }
        }

        private boolean isLock(int i, int j) {
            boolean allDone = i == first.count && j == second.count;
            return reached[i * WIDTH + j] && !allDone && !firstGoes(i, j) && !secondGoes(i, j);
        }

        private boolean firstGoes(int i, int j) {
            return first.goes(i, second.zonesBehind[j]);
        }

        private boolean secondGoes(int i, int j) {
            return second.goes(j, first.zonesBehind[i]);
        }
    }
}
