import java.util.ArrayList;
import java.util.List;
import java.util.function.ToIntFunction;

/**
 * "Calls that are refused answer, the first of these that fits .. They change nothing": each
 * refused call is made on one of two objects alike, which have to answer alike from there on.
 */
public final class RefusedTest {
    private static final Due due = new Due();
    private static final int MIN = Due.MIN, MAX = Due.MAX;

    /** An object in which all that is told shows in some answer. */
    private static SeamCell busy() {
        SeamCell x = new SeamCell();
        x.table(3, 160);
        x.arm(180, 50);
        x.rules(50, 5);
        x.times(7, 9, 3, 11);
        x.home(60, 210);
        x.bar(30, 170, 50, 190);
        x.bar(0, 185, 10, 195);
        x.seam(-20, 0, 20, 20, 7, 130);
        x.seam(20, 25, 20, 45, 5, 300);
        x.seam(24, 28, 60, 45, 5, 0);
        x.add(1, 1);
        x.add(0, 0);
        x.touch(0, 10, 13, 4);
        x.touch(1, -10, -15, 2);
        x.shift();
        x.touch(0, 10, 15, 3);
        int[][] acts = {{0, 1, 0}, {0, 1, 1}, {0, 0, 4}, {0, 2, 1}, {1, 1, 1}, {1, 1, 0}, {1, 2, 1}, {1, 0, 3}};
        for (int[] a : acts) x.act(a[0], a[1], a[2]);
        x.run();
        x.act(0, 0, 2);
        return x;
    }

    /** All of everything, so that calls are refused as FULL. */
    private static SeamCell full() {
        SeamCell x = busy();
        for (int k = 0; k < 5; k++) x.seam(-60, 10 * k, -30, 10 * k, 5, 90);
        x.bar(100, 100, 110, 120);
        x.bar(100, 200, 110, 220);
        for (int k = 0; k < 17; k++) x.touch(1, 0, -5, 2);
        for (int k = 0; k < 12; k++) {
            x.act(0, 0, 1);
            x.act(1, 0, 2);
        }
        return x;
    }

    private static SeamCell withoutQuarters() {
        SeamCell x = busy();
        x.table(0, 0);
        return x;
    }

    private static List<Integer> look(SeamCell x) {
        List<Integer> seen = new ArrayList<>();
        for (int what = 0; what <= 5; what++) seen.add(x.told(what));
        for (int s = 0; s < 3; s++) {
            for (int what = 0; what <= 7; what++) seen.add(x.about(s, what));
            for (int q = 0; q < 4; q++) seen.add(x.lacks(s, q));
            seen.add(x.near(s, (s + 1) % 3));
        }
        int[][] lines = {{31, 171, 31, 171}, {49, 189, 49, 189}, {30, 160, 30, 200}, {5, 185, 5, 186}, {0, 400, 0, -400}};
        for (int[] l : lines) seen.add(x.free(l[0], l[1], l[2], l[3]));
        for (int k = 0; k < 3; k++) {
            for (int what = 0; what <= 4; what++) seen.add(x.row(k, what));
        }
        seen.add(x.total());
        for (int axis = 0; axis <= 1; axis++) {
            seen.add(x.shut(axis, 0));
            seen.add(x.shut(axis, 1));
            seen.add(x.shifted(axis));
        }
        for (int what = 0; what <= 4; what++) seen.add(x.ran(what));
        seen.add(x.web());
        for (int i = -1; i < 4; i++) seen.add(x.lock(i));
        return seen;
    }

    /** What later calls that do change something answer. */
    private static List<Integer> goOn(SeamCell x) {
        List<Integer> seen = new ArrayList<>();
        seen.add(x.shift());
        seen.add(x.touch(0, 0, 4, 1));
        seen.add(x.touch(1, 0, -5, 0));
        seen.add(x.act(0, 2, 0));
        seen.add(x.act(0, 1, 3));
        seen.add(x.act(1, 2, 0));
        seen.add(x.run());
        seen.add(x.bar(0, 150, 1, 230));
        seen.add(x.add(2, 1));
        seen.add(x.seam(-30, 10, -10, 10, 3, 50));
        seen.add(x.add(3, 0));
        seen.add(x.clear(1));
        seen.add(x.best());
        return seen;
    }

    private static void refused(String call, int want, SeamCell x, SeamCell twin, ToIntFunction<SeamCell> ask) {
        due.is(want, ask.applyAsInt(x), call);
        due.holds(look(x).equals(look(twin)), call + " has changed something");
        due.holds(goOn(x).equals(goOn(twin)), call + " changes what later calls answer");
        due.holds(look(x).equals(look(twin)), call + " changes what later calls do");
    }

    private static void busy(String call, int want, ToIntFunction<SeamCell> ask) {
        refused(call, want, busy(), busy(), ask);
    }

    private static void full(String call, int want, ToIntFunction<SeamCell> ask) {
        refused(call + " (full)", want, full(), full(), ask);
    }

    private static void bare(String call, int want, ToIntFunction<SeamCell> ask) {
        refused(call + " (without quarters)", want, withoutQuarters(), withoutQuarters(), ask);
    }

    private static void fresh(String call, int want, ToIntFunction<SeamCell> ask) {
        refused(call + " (new)", want, new SeamCell(), new SeamCell(), ask);
    }

    public static void main(String[] args) {
        numbers();
        bars();
        seams();
        others();
        rows();
        touches();
        acts();
        due.end();
    }

    private static void numbers() {
        for (int w : new int[] {-201, 201, MIN, MAX}) {
            due.promise(2);
            busy("table(" + w + ", 9)", SeamCell.OUTSIDE, x -> x.table(w, 9));
            busy("table(9, " + w + ")", SeamCell.OUTSIDE, x -> x.table(9, w));
        }
        for (int w : new int[] {9, 301, -150, MIN, MAX}) {
            due.promise(3);
            busy("arm(" + w + ", 200)", SeamCell.OUTSIDE, x -> x.arm(w, 200));
            busy("arm(200, " + w + ")", SeamCell.OUTSIDE, x -> x.arm(200, w));
        }
        due.promise(4);
        for (int w : new int[] {-1, 1001, MIN, MAX}) busy("rules(" + w + ", 9)", SeamCell.OUTSIDE, x -> x.rules(w, 9));
        for (int w : new int[] {-1, -6, 201, MIN, MAX}) {
            busy("rules(0, " + w + ")", SeamCell.OUTSIDE, x -> x.rules(0, w));
            busy("rules(1000, " + w + ")", SeamCell.OUTSIDE, x -> x.rules(1000, w));
        }
        due.promise(5);
        for (int w : new int[] {-1, 101, MIN, MAX}) busy("times(" + w + ", 2, 2, 2)", SeamCell.OUTSIDE, x -> x.times(w, 2, 2, 2));
        for (int w : new int[] {0, 101, MIN, MAX}) busy("times(2, " + w + ", 2, 2)", SeamCell.OUTSIDE, x -> x.times(2, w, 2, 2));
        for (int w : new int[] {-1, 51, MIN, MAX}) busy("times(2, 2, " + w + ", 2)", SeamCell.OUTSIDE, x -> x.times(2, 2, w, 2));
        for (int w : new int[] {0, 101, MIN, MAX}) busy("times(2, 2, 2, " + w + ")", SeamCell.OUTSIDE, x -> x.times(2, 2, 2, w));
        due.promise(6);
        for (int w : new int[] {-401, 401, MIN, MAX}) {
            busy("home(" + w + ", 9)", SeamCell.OUTSIDE, x -> x.home(w, 9));
            busy("home(9, " + w + ")", SeamCell.OUTSIDE, x -> x.home(9, w));
        }
    }

    private static void bars() {
        due.promise(7);
        int[][] wrong = {{-401, 150, 10, 200}, {401, 150, 10, 200}, {-10, -401, 10, 200}, {-10, 401, 10, 200},
            {-10, 150, 401, 200}, {-10, 150, -401, 200}, {-10, 150, 10, 401}, {-10, 150, 10, -401}, {10, 150, 10, 200},
            {11, 150, 10, 200}, {-10, 200, 10, 200}, {-10, 201, 10, 200}, {MIN, 150, MAX, 200}, {-10, MIN, 10, MAX}};
        for (int[] w : wrong) {
            ToIntFunction<SeamCell> ask = x -> x.bar(w[0], w[1], w[2], w[3]);
            busy("bar outside", SeamCell.OUTSIDE, ask);
            full("bar outside", SeamCell.OUTSIDE, ask);
            fresh("bar outside", SeamCell.OUTSIDE, ask);
        }
        full("bar", SeamCell.FULL, x -> x.bar(-10, 150, 10, 200));
    }

    private static void seams() {
        due.promise(8);
        int[][] wrong = {{-101, 0, 9, 9, 9, 9}, {101, 0, 9, 9, 9, 9}, {0, -101, 9, 9, 9, 9}, {0, 101, 9, 9, 9, 9},
            {0, 0, -101, 9, 9, 9}, {0, 0, 101, 9, 9, 9}, {0, 0, 9, -101, 9, 9}, {0, 0, 9, 101, 9, 9}, {0, 0, 9, 9, 0, 9},
            {0, 0, 9, 9, 51, 9}, {0, 0, 9, 9, 9, -1}, {0, 0, 9, 9, 9, 1001}, {7, 7, 7, 7, 9, 9}, {MIN, 0, MAX, 9, 9, 9}};
        for (int[] w : wrong) {
            ToIntFunction<SeamCell> ask = x -> x.seam(w[0], w[1], w[2], w[3], w[4], w[5]);
            busy("seam outside", SeamCell.OUTSIDE, ask);
            full("seam outside", SeamCell.OUTSIDE, ask);
            fresh("seam outside", SeamCell.OUTSIDE, ask);
        }
        full("seam", SeamCell.FULL, x -> x.seam(0, 0, 9, 9, 9, 9));
    }

    private static void others() {
        for (int w : new int[] {-1, 5, MIN, MAX}) {
            due.promise(9);
            busy("clear(" + w + ")", SeamCell.UNKNOWN, x -> x.clear(w));
            fresh("clear(" + w + ")", SeamCell.UNKNOWN, x -> x.clear(w));
            due.promise(24);
            busy("ran(" + w + ")", SeamCell.OUTSIDE, x -> x.ran(w));
            fresh("ran(" + w + ")", SeamCell.OUTSIDE, x -> x.ran(w));
        }
        fresh("ran(0)", SeamCell.STATE, x -> x.ran(0));
        for (int w : new int[] {-1, 3, MIN, MAX}) {
            due.promise(10);
            busy("about(" + w + ", 0)", -1001, x -> x.about(w, 0));
            busy("about(" + w + ", 8)", -1001, x -> x.about(w, 8));
            due.promise(11);
            busy("lacks(" + w + ", 0)", SeamCell.UNKNOWN, x -> x.lacks(w, 0));
            busy("lacks(" + w + ", 4)", SeamCell.UNKNOWN, x -> x.lacks(w, 4));
            due.promise(12);
            busy("near(" + w + ", 0)", SeamCell.UNKNOWN, x -> x.near(w, 0));
            busy("near(0, " + w + ")", SeamCell.UNKNOWN, x -> x.near(0, w));
            busy("near(" + w + ", " + w + ")", SeamCell.UNKNOWN, x -> x.near(w, w));
        }
        due.promise(10);
        for (int w : new int[] {-1, 8, MIN, MAX}) busy("about(0, " + w + ")", -1002, x -> x.about(0, w));
        due.promise(11);
        for (int w : new int[] {-1, 4, MIN, MAX}) busy("lacks(0, " + w + ")", SeamCell.OUTSIDE, x -> x.lacks(0, w));
        due.promise(13);
        for (int w : new int[] {-1001, 1001, MIN, MAX}) {
            busy("free(" + w + ", 0, 0, 0)", SeamCell.OUTSIDE, x -> x.free(w, 0, 0, 0));
            busy("free(0, " + w + ", 0, 0)", SeamCell.OUTSIDE, x -> x.free(0, w, 0, 0));
            busy("free(0, 0, " + w + ", 0)", SeamCell.OUTSIDE, x -> x.free(0, 0, w, 0));
            busy("free(0, 0, 0, " + w + ")", SeamCell.OUTSIDE, x -> x.free(0, 0, 0, w));
        }
        due.promise(27);
        for (int w : new int[] {-1, 6, MIN, MAX}) busy("told(" + w + ")", SeamCell.OUTSIDE, x -> x.told(w));
    }

    private static void rows() {
        due.promise(14);
        for (int s : new int[] {-1, 3, MIN, MAX}) {
            for (int way : new int[] {0, 2}) {
                busy("add(" + s + ", " + way + ")", SeamCell.UNKNOWN, x -> x.add(s, way));
                bare("add(" + s + ", " + way + ")", SeamCell.UNKNOWN, x -> x.add(s, way));
            }
        }
        for (int s = 0; s < 3; s++) {
            int seam = s;
            for (int way : new int[] {-1, 2, MIN, MAX}) {
                busy("add(" + s + ", " + way + ")", SeamCell.OUTSIDE, x -> x.add(seam, way));
                bare("add(" + s + ", " + way + ")", SeamCell.OUTSIDE, x -> x.add(seam, way));
            }
        }
        for (int way = 0; way <= 1; way++) {
            int w = way;
            busy("add(0, " + way + ")", SeamCell.STATE, x -> x.add(0, w));
            busy("add(1, " + way + ")", SeamCell.STATE, x -> x.add(1, w));
            bare("add(0, " + way + ")", SeamCell.STATE, x -> x.add(0, w));
            bare("add(2, " + way + ")", SeamCell.NO, x -> x.add(2, w));
        }
        due.promise(15);
        for (int k : new int[] {-1, 2, MIN, MAX}) {
            for (int what : new int[] {0, -1, 5}) {
                busy("row(" + k + ", " + what + ")", SeamCell.UNKNOWN, x -> x.row(k, what));
                bare("row(" + k + ", " + what + ")", SeamCell.UNKNOWN, x -> x.row(k, what));
            }
        }
        for (int w : new int[] {-1, 5, MIN, MAX}) {
            busy("row(0, " + w + ")", SeamCell.OUTSIDE, x -> x.row(0, w));
            bare("row(1, " + w + ")", SeamCell.OUTSIDE, x -> x.row(1, w));
        }
        for (int w = 0; w <= 4; w++) {
            int what = w;
            bare("row(0, " + w + ")", SeamCell.NO, x -> x.row(0, what));
            bare("row(1, " + w + ")", SeamCell.NO, x -> x.row(1, what));
        }
        due.promise(16);
        bare("total()", SeamCell.NO, x -> x.total());
        due.promise(17);
        bare("best()", SeamCell.NO, x -> x.best());
        full("best()", SeamCell.FULL, x -> x.best());
    }

    private static void touches() {
        due.promise(18);
        int[][] wrong = {{-1, 0, 4, 1}, {2, 0, 4, 1}, {0, -101, -97, 1}, {0, 101, 105, 1}, {0, 0, -201, 1}, {0, 0, 201, 1},
            {0, 0, 4, -1}, {0, 0, 4, 51}, {1, -101, -106, 1}, {1, 0, -5, -1}, {0, 101, 0, 0}, {MIN, MIN, MIN, MIN}};
        for (int[] w : wrong) {
            ToIntFunction<SeamCell> ask = x -> x.touch(w[0], w[1], w[2], w[3]);
            busy("touch outside", SeamCell.OUTSIDE, ask);
            full("touch outside", SeamCell.OUTSIDE, ask);
        }
        busy("touch(0, 0, 1, 0)", SeamCell.NO, x -> x.touch(0, 0, 1, 0));
        busy("touch(0, 0, 9, 1)", SeamCell.NO, x -> x.touch(0, 0, 9, 1));
        busy("touch(1, 0, -8, 0)", SeamCell.NO, x -> x.touch(1, 0, -8, 0));
        busy("touch(1, 0, 0, 2)", SeamCell.NO, x -> x.touch(1, 0, 0, 2));
        fresh("touch(0, 0, 21, 0)", SeamCell.NO, x -> x.touch(0, 0, 21, 0));
        full("touch(0, 0, 4, 1)", SeamCell.FULL, x -> x.touch(0, 0, 4, 1));
        full("touch(0, 0, 9, 1)", SeamCell.FULL, x -> x.touch(0, 0, 9, 1));
        for (int w : new int[] {-1, 2, MIN, MAX}) {
            due.promise(19);
            busy("shut(" + w + ", 0)", -1002, x -> x.shut(w, 0));
            busy("shut(0, " + w + ")", -1002, x -> x.shut(0, w));
            due.promise(21);
            busy("shifted(" + w + ")", -1002, x -> x.shifted(w));
        }
    }

    private static void acts() {
        due.promise(22);
        for (int w : new int[] {-1, 2, MIN, MAX}) {
            busy("act(" + w + ", 0, 1)", SeamCell.UNKNOWN, x -> x.act(w, 0, 1));
            full("act(" + w + ", 1, 9)", SeamCell.UNKNOWN, x -> x.act(w, 1, 9));
            busy("act(" + w + ", 3, 9)", SeamCell.UNKNOWN, x -> x.act(w, 3, 9));
        }
        int[][] wrong = {{-1, 1}, {3, 1}, {MIN, 1}, {MAX, 1}, {0, 0}, {0, 51}, {0, MIN}, {0, MAX}, {1, -1}, {1, 5}, {1, 32},
            {1, MAX}, {2, -1}, {2, 5}, {2, 32}, {2, MIN}};
        for (int[] w : wrong) {
            for (int arm = 0; arm <= 1; arm++) {
                int a = arm;
                busy("act outside", SeamCell.OUTSIDE, x -> x.act(a, w[0], w[1]));
                full("act outside", SeamCell.OUTSIDE, x -> x.act(a, w[0], w[1]));
            }
        }
        int[][] unfit = {{0, 1, 0}, {0, 2, 1}, {0, 2, 4}, {1, 1, 0}, {1, 2, 1}, {1, 2, 2}};
        for (int[] u : unfit) {
            busy("act in no fit zone", SeamCell.STATE, x -> x.act(u[0], u[1], u[2]));
            full("act in no fit zone", SeamCell.STATE, x -> x.act(u[0], u[1], u[2]));
        }
        int[][] fit = {{0, 0, 1}, {0, 1, 1}, {0, 2, 0}, {1, 0, 50}, {1, 1, 4}, {1, 2, 0}};
        for (int[] f : fit) full("act 17", SeamCell.FULL, x -> x.act(f[0], f[1], f[2]));
    }
}
