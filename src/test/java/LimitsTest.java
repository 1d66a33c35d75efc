import java.lang.reflect.Field;
import java.util.Arrays;

/** No call throws, whatever its arguments are and however full the object is. */
final class LimitsTest {
    private static final int[] ODD = {
        Integer.MIN_VALUE, Integer.MIN_VALUE + 1, -100, -21, -11, -3, -2, -1, 0, 1, 2, 3, 4, 5, 6, 7, 9, 10, 11, 12, 13,
        19, 20, 21, 22, 23, 24, 48, 49, 63, 64, 100, Integer.MAX_VALUE - 1, Integer.MAX_VALUE};

    private static final Due due = new Due();

    private static final String[] VALUES = {"rowX", "rowY"};
    private static final String[] TERMS = {"headX", "headY", "atomX", "atomY"};
    private static final String[] TABLES = {"atomTable"};

    public static void main(String[] args) throws ReflectiveOperationException {
        oddArguments();
        fullestQuery();
        keptNumbersAreLookedAt();
        due.end();
    }

    private static void oddArguments() {
        NaiveNulls x = new NaiveNulls();
        int calls = 0;
        for (int a : ODD) {
            for (int b : ODD) {
                for (int c : ODD) {
                    if (x.addRow(a, b, c) == NaiveNulls.FULL) {
                        x.dropRow(a);
                    }
                    x.atom(a, b, c);
                    calls++;
                }
                x.learn(a, b);
                x.rule(a, b);
                x.certain(a, b);
                x.possible(a, b);
                if (b == 24) {
                    x.dropRules();
                }
            }
            x.dropRow(a);
            x.certainCount();
            x.alwaysSome();
        }
        due.is("calls that ended", ODD.length * ODD.length * ODD.length, calls);
    }

    private static void fullestQuery() {
        NaiveNulls x = new NaiveNulls();
        for (int i = 0; i < 5; i++) {
            x.addRow(0, 10, 11);
            x.addRow(1, 11, 12);
        }
        for (int r = 0; r < 2; r++) {
            x.rule(20, 23);
            x.atom(0, 20, 21);
            x.atom(1, 21, 22);
            x.atom(1, 22 - r, 23);
        }
        for (int i = 0; i < 480; i++) {
            due.yes("possible(6, 6)", x.possible(6, 6));
        }
        due.yes("alwaysSome", x.alwaysSome());
        due.is("certainCount", 0, x.certainCount());
    }

    /**
     * A number that was kept is looked at again before it is an index. No run of calls can show this,
     * since odd numbers are refused when they come in: so they are put in place behind the calls.
     */
    private static void keptNumbersAreLookedAt() throws ReflectiveOperationException {
        for (int odd : ODD) {
            NaiveNulls rows = oneRowOneAtom();
            fill(rows, VALUES, odd);
            due.no("a query over rows of " + odd + " throws", queriesThrow(rows));
            NaiveNulls terms = oneRowOneAtom();
            fill(terms, TERMS, odd);
            due.no("a query of terms " + odd + " throws", queriesThrow(terms));
            NaiveNulls tables = oneRowOneAtom();
            fill(tables, TABLES, odd);
            due.no("a query of table " + odd + " throws", queriesThrow(tables));
            NaiveNulls both = oneRowOneAtom();
            fill(both, VALUES, odd);
            fill(both, TERMS, odd);
            due.no("a query of terms " + odd + " over rows of " + odd + " throws", queriesThrow(both));
        }
    }

    private static NaiveNulls oneRowOneAtom() {
        NaiveNulls x = new NaiveNulls();
        x.addRow(0, 0, 0);
        x.rule(20, 20);
        x.atom(0, 20, 20);
        return x;
    }

    private static void fill(NaiveNulls x, String[] fields, int number) throws ReflectiveOperationException {
        for (String name : fields) {
            Field field = NaiveNulls.class.getDeclaredField(name);
            field.setAccessible(true);
            Arrays.fill((int[]) field.get(x), number);
        }
    }

    private static boolean queriesThrow(NaiveNulls x) {
        try {
            x.certain(0, 0);
            x.possible(0, 0);
            x.certainCount();
            x.alwaysSome();
            return false;
        } catch (RuntimeException thrown) {
            return true;
        }
    }
}
