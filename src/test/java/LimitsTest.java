/** No call throws, whatever its arguments are and however full the object is. */
final class LimitsTest {
    private static final int[] ODD = {
        Integer.MIN_VALUE, Integer.MIN_VALUE + 1, -100, -21, -11, -3, -2, -1, 0, 1, 2, 3, 4, 5, 6, 7, 9, 10, 11, 12, 13,
        19, 20, 21, 22, 23, 24, 48, 49, 63, 64, 100, Integer.MAX_VALUE - 1, Integer.MAX_VALUE};

    private static final Due due = new Due();

    public static void main(String[] args) {
        oddArguments();
        fullestQuery();
        due.end();
    }

    private static void oddArguments() {
        NaiveNulls x = new NaiveNulls();
        int calls = 0;
        for (int a : ODD) {
            for (int b : ODD) {
                for (int c : ODD) {
                    if (x.addRow(a, b, c) == NaiveNulls.FULL) {
                        x.dropRow(a);
                    }
                    x.atom(a, b, c);
                    calls++;
                }
                x.learn(a, b);
                x.rule(a, b);
                x.certain(a, b);
                x.possible(a, b);
                if (b == 24) {
                    x.dropRules();
                }
            }
            x.dropRow(a);
            x.certainCount();
            x.alwaysSome();
        }
        due.is("calls that ended", ODD.length * ODD.length * ODD.length, calls);
    }

    private static void fullestQuery() {
        NaiveNulls x = new NaiveNulls();
        for (int i = 0; i < 5; i++) {
            x.addRow(0, 10, 11);
            x.addRow(1, 11, 12);
        }
        for (int r = 0; r < 2; r++) {
            x.rule(20, 23);
            x.atom(0, 20, 21);
            x.atom(1, 21, 22);
            x.atom(1, 22 - r, 23);
        }
        for (int i = 0; i < 480; i++) {
            due.yes("possible(6, 6)", x.possible(6, 6));
        }
        due.yes("alwaysSome", x.alwaysSome());
        due.is("certainCount", 0, x.certainCount());
    }
}
