/** Counts the answers of one test that are not the ones that are due. */
final class Due {
    private int wrong = 0;
    private int asked = 0;

    void is(String call, long want, long got) {
        asked++;
        if (got != want) {
            wrong++;
            System.out.println(call + " answered " + got + ", due is " + want);
        }
    }

    void yes(String call, boolean got) {
        is(call, 1, got ? 1 : 0);
    }

    void no(String call, boolean got) {
        is(call, 0, got ? 1 : 0);
    }

    /** Ends the test: exit code 1 if an answer was wrong, or if nothing was asked. */
    void end() {
        System.out.println(asked + " answers, " + wrong + " not as due");
        if (wrong != 0 || asked == 0) {
            System.exit(1);
        }
    }
}
