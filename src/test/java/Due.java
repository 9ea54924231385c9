import java.util.function.IntUnaryOperator;

/** Counts answers that are not as due, and ends a test with exit code 1 if there was one. */
final class Due {
    static final int MIN = Integer.MIN_VALUE, MAX = Integer.MAX_VALUE;

    private int asked, wrong;
    private String promise = "";

    void promise(int number) {
        promise = "promise " + number + ": ";
    }

    /** What follows tests this sentence of the document, for the promise with this number. */
    void says(int number, String sentence) {
        promise = "promise " + number + ", \"" + sentence + "\": ";
    }

    void is(int want, int got, String call) {
        asked++;
        if (got != want) {
            wrong++;
            System.out.println(promise + call + " answered " + got + ", due is " + want);
        }
    }

    void holds(boolean fact, String what) {
        asked++;
        if (!fact) {
            wrong++;
            System.out.println(promise + what);
        }
    }

    /** The last numbers that are taken and the first that are refused, on both sides. */
    void range(int least, int most, int refused, String call, IntUnaryOperator ask) {
        for (int n : new int[] {least, most}) {
            holds(ask.applyAsInt(n) != refused, call + " with " + n + " is refused");
        }
        for (int n : new int[] {least - 1, most + 1, MIN, MAX}) {
            is(refused, ask.applyAsInt(n), call + " with " + n);
        }
    }

    void end() {
        System.out.println(asked + " answers, " + wrong + " of them not as due");
        if (wrong != 0 || asked == 0) System.exit(1);
    }
}
