/** Counts answers that are not as due, and ends a test with exit code 1 if there was one. */
final class Due {
    private int asked, wrong;
    private String promise = "";

    void promise(int number) {
        promise = "promise " + number + ": ";
    }

    void is(int want, int got, String call) {
        asked++;
        if (got != want) {
            wrong++;
            System.out.println(promise + call + " answered " + got + ", due is " + want);
        }
    }

    void holds(boolean fact, String what) {
        asked++;
        if (!fact) {
            wrong++;
            System.out.println(promise + what);
        }
    }

    void end() {
        System.out.println(asked + " answers, " + wrong + " of them not as due");
        if (wrong != 0 || asked == 0) System.exit(1);
    }
}
