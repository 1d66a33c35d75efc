/** Promises 8 to 11: certain, possible, certainCount, alwaysSome. */
final class AnswersTest {
    private static final int[] NO_CONSTANTS = {
        Integer.MIN_VALUE, -50, -7, -2, -1, 7, 8, 10, 11, 12, 20, 23, 49, 64, Integer.MAX_VALUE};

    private static final Due due = new Due();

    public static void main(String[] args) {
        emptyBody();
        unsafeRules();
        unsafeBesideOtherAtoms();
        safeByOneAtom();
        numbersOutside();
        constantsUpToSix();
        sharedUnknowns();
        everyCoupleOfUnknowns();
        threeUnknowns();
        everyCompletionIsTried();
        joinsOverBothTables();
        repeatedVariables();
        constantsInAtoms();
        fourVariables();
        twoRulesOneSet();
        alwaysSomeWithoutACertainOne();
        alwaysSomeNeedsEveryCompletion();
        askingChangesNothing();
        due.end();
    }

    private static void emptyBody() {
        NaiveNulls x = new NaiveNulls();
        x.rule(2, 3);
        due.yes("head of constants: certain", x.certain(2, 3));
        due.yes("head of constants: possible", x.possible(2, 3));
        due.no("turned", x.possible(3, 2));
        due.is("certainCount", 1, x.certainCount());
        due.yes("alwaysSome", x.alwaysSome());
        x.rule(2, 3);
        due.is("the same answer twice counts once", 1, x.certainCount());
        x.atom(0, 20, 21);
        due.is("the other rule still answers", 1, x.certainCount());
    }

    private static void unsafeRules() {
        int[][] heads = {{20, 20}, {20, 0}, {0, 20}, {20, 21}, {22, 20}, {20, 22}, {20, 23}};
        for (int[] head : heads) {
            NaiveNulls x = new NaiveNulls();
            x.addRow(0, 1, 1);
            x.rule(head[0], head[1]);
            String name = "head " + head[0] + ", " + head[1];
            due.is(name + " over nothing: certainCount", 0, x.certainCount());
            due.no(name + " over nothing: possible", x.possible(0, 0));
            due.no(name + " over nothing: alwaysSome", x.alwaysSome());
            x.atom(0, 22, 22);
            due.is(name + ": certainCount", 0, x.certainCount());
            due.no(name + ": possible", x.possible(1, 1));
            due.no(name + ": alwaysSome", x.alwaysSome());
            x.rule(3, 3);
            due.is(name + " beside a safe rule", 1, x.certainCount());
        }
        NaiveNulls y = new NaiveNulls();
        y.addRow(0, 1, 2);
        y.rule(20, 20);
        y.rule(21, 20);
        y.atom(0, 20, 21);
        due.is("the atoms of another rule don't make a rule safe", 1, y.certainCount());
        due.yes("the safe one answers", y.certain(2, 1));
    }

    private static void noAnswers(String name, NaiveNulls x) {
        due.is(name + ": certainCount", 0, x.certainCount());
        due.no(name + ": alwaysSome", x.alwaysSome());
        for (int a = 0; a <= 6; a++) {
            for (int b = 0; b <= 6; b++) {
                due.no(name + ": possible(" + a + ", " + b + ")", x.possible(a, b));
            }
        }
    }

    /** Atoms that are gone, or are of the next rule, don't make a rule safe. */
    private static void unsafeBesideOtherAtoms() {
        NaiveNulls x = new NaiveNulls();
        x.addRow(0, 1, 1);
        x.rule(20, 20);
        x.atom(0, 20, 21);
        x.dropRules();
        x.rule(1, 20);
        noAnswers("after dropRules", x);
        NaiveNulls y = new NaiveNulls();
        y.addRow(0, 1, 1);
        for (int r = 0; r < 2; r++) {
            y.rule(2, 20 + r);
            for (int i = 0; i < 3; i++) {
                y.atom(0, 21 - r, 21 - r);
            }
        }
        noAnswers("two full unsafe rules", y);
    }

    private static void safeByOneAtom() {
        NaiveNulls x = new NaiveNulls();
        x.addRow(0, 1, 2);
        x.addRow(1, 3, 0);
        x.rule(20, 23);
        x.atom(0, 20, 21);
        due.no("unsafe so far", x.possible(1, 0));
        x.atom(1, 22, 22);
        due.no("unsafe still", x.possible(1, 0));
        x.atom(1, 3, 23);
        due.no("safe, but the second atom fits no row", x.possible(1, 0));
        x.addRow(1, 2, 2);
        due.yes("safe by its third atom", x.certain(1, 0));
        due.is("and that alone", 1, x.certainCount());
    }

    private static void numbersOutside() {
        NaiveNulls x = new NaiveNulls();
        x.addRow(0, 10, 11);
        x.addRow(0, 0, 0);
        x.rule(20, 21);
        x.atom(0, 20, 21);
        for (int bad : NO_CONSTANTS) {
            for (int good = 0; good <= 6; good++) {
                due.no("certain(" + bad + ", " + good + ")", x.certain(bad, good));
                due.no("certain(" + good + ", " + bad + ")", x.certain(good, bad));
                due.no("possible(" + bad + ", " + good + ")", x.possible(bad, good));
                due.no("possible(" + good + ", " + bad + ")", x.possible(good, bad));
            }
            due.no("certain(" + bad + ", " + bad + ")", x.certain(bad, bad));
            due.no("possible(" + bad + ", " + bad + ")", x.possible(bad, bad));
        }
    }

    private static void constantsUpToSix() {
        for (int unknown = 10; unknown <= 12; unknown++) {
            NaiveNulls x = new NaiveNulls();
            x.addRow(1, unknown, 2);
            x.rule(21, 20);
            x.atom(1, 20, 21);
            for (int a = 0; a <= 6; a++) {
                due.yes("possible(2, " + a + ")", x.possible(2, a));
                due.no("certain(2, " + a + ")", x.certain(2, a));
                for (int b = 0; b <= 6; b++) {
                    due.is("possible(" + a + ", " + b + ")", a == 2 ? 1 : 0, x.possible(a, b) ? 1 : 0);
                }
            }
            due.is("certainCount", 0, x.certainCount());
            due.yes("alwaysSome", x.alwaysSome());
        }
    }

    private static void sharedUnknowns() {
        NaiveNulls x = new NaiveNulls();
        x.addRow(0, 1, 10);
        x.addRow(1, 10, 2);
        x.rule(20, 22);
        x.atom(0, 20, 21);
        x.atom(1, 21, 22);
        due.yes("the same unknown joins", x.certain(1, 2));
        NaiveNulls y = new NaiveNulls();
        y.addRow(0, 1, 10);
        y.addRow(1, 11, 2);
        y.rule(20, 22);
        y.atom(0, 20, 21);
        y.atom(1, 21, 22);
        due.no("two unknowns may differ", y.certain(1, 2));
        due.yes("or be the same", y.possible(1, 2));
        due.no("so there may be no answer", y.alwaysSome());
        y.learn(10, 3);
        due.no("one learnt is not enough", y.certain(1, 2));
        y.learn(11, 3);
        due.yes("both learnt join", y.certain(1, 2));
    }

    private static void everyCoupleOfUnknowns() {
        for (int u = 10; u <= 12; u++) {
            for (int v = 10; v <= 12; v++) {
                NaiveNulls x = new NaiveNulls();
                x.addRow(0, u, v);
                x.rule(20, 21);
                x.atom(0, 20, 21);
                for (int a = 0; a <= 6; a++) {
                    for (int b = 0; b <= 6; b++) {
                        String call = "row (" + u + ", " + v + "): possible(" + a + ", " + b + ")";
                        due.is(call, u != v || a == b ? 1 : 0, x.possible(a, b) ? 1 : 0);
                    }
                }
            }
        }
    }

    private static void threeUnknowns() {
        NaiveNulls x = new NaiveNulls();
        x.addRow(0, 10, 11);
        x.addRow(1, 11, 12);
        x.rule(20, 21);
        x.atom(0, 20, 22);
        x.atom(1, 22, 21);
        due.yes("possible(6, 5)", x.possible(6, 5));
        due.yes("possible(0, 6)", x.possible(0, 6));
        due.is("certainCount", 0, x.certainCount());
        due.yes("alwaysSome", x.alwaysSome());
        x.dropRules();
        x.rule(0, 0);
        x.atom(0, 20, 20);
        x.atom(1, 20, 20);
        due.yes("all three may be the same", x.possible(0, 0));
        due.no("or not", x.certain(0, 0));
    }

    /** One completion alone gives the answer, and it is not passed over. */
    private static void everyCompletionIsTried() {
        NaiveNulls x = new NaiveNulls();
        x.addRow(0, 10, 11);
        x.addRow(1, 12, 12);
        for (int n = 0; n < 64; n++) {
            int p = n % 4;
            int q = n / 4 % 4;
            int r = n / 16;
            x.rule(1, 2);
            x.atom(0, p, q);
            x.atom(1, r, r);
            due.yes("possible with " + p + ", " + q + ", " + r, x.possible(1, 2));
            due.no("certain with " + p + ", " + q + ", " + r, x.certain(1, 2));
            x.dropRules();
        }
        x.rule(20, 20);
        x.atom(0, 20, 20);
        x.atom(1, 20, 20);
        for (int a = 0; a <= 6; a++) {
            due.yes("possible with all " + a, x.possible(a, a));
        }
        x.dropRules();
        x.rule(20, 22);
        x.atom(0, 20, 21);
        x.atom(1, 22, 22);
        for (int a = 0; a <= 6; a++) {
            for (int b = 0; b <= 6; b++) {
                due.yes("possible(" + a + ", " + b + ")", x.possible(a, b));
            }
        }
    }

    private static void joinsOverBothTables() {
        NaiveNulls x = new NaiveNulls();
        for (int i = 0; i < 4; i++) {
            x.addRow(0, i, (i + 1) % 4);
            x.addRow(1, i, (i + 2) % 4);
        }
        x.rule(20, 23);
        x.atom(0, 20, 21);
        x.atom(1, 21, 22);
        x.atom(0, 22, 23);
        for (int a = 0; a < 4; a++) {
            for (int b = 0; b < 4; b++) {
                due.is("certain(" + a + ", " + b + ")", a == b ? 1 : 0, x.certain(a, b) ? 1 : 0);
            }
        }
        due.is("certainCount", 4, x.certainCount());
        due.is("last row", 5, x.addRow(0, 3, 3));
        due.is("last row", 5, x.addRow(1, 3, 3));
        due.yes("the fifth rows join too", x.certain(3, 3));
        due.yes("by way of the fifth rows", x.certain(2, 0));
    }

    private static void repeatedVariables() {
        NaiveNulls x = new NaiveNulls();
        x.addRow(0, 1, 2);
        x.addRow(0, 3, 3);
        x.addRow(0, 10, 10);
        x.addRow(0, 11, 12);
        x.rule(20, 20);
        x.atom(0, 20, 20);
        due.is("certainCount", 1, x.certainCount());
        due.yes("certain(3, 3)", x.certain(3, 3));
        due.yes("possible(6, 6)", x.possible(6, 6));
        due.no("possible(1, 2)", x.possible(1, 2));
        due.no("certain(1, 1)", x.certain(1, 1));
    }

    private static void constantsInAtoms() {
        NaiveNulls x = new NaiveNulls();
        x.addRow(0, 0, 10);
        x.addRow(1, 2, 3);
        x.rule(1, 20);
        x.atom(0, 0, 2);
        x.atom(1, 2, 20);
        due.yes("the unknown may be 2", x.possible(1, 3));
        due.no("or not", x.certain(1, 3));
        x.learn(10, 2);
        due.yes("it is 2", x.certain(1, 3));
        x.dropRules();
        x.rule(1, 1);
        x.atom(1, 3, 2);
        due.no("an atom is not turned", x.possible(1, 1));
        x.dropRules();
        x.rule(1, 1);
        x.atom(1, 2, 3);
        due.yes("an atom of constants", x.certain(1, 1));
    }

    private static void fourVariables() {
        for (int i = 20; i <= 23; i++) {
            for (int j = 20; j <= 23; j++) {
                NaiveNulls x = new NaiveNulls();
                x.addRow(0, 0, 1);
                x.addRow(1, 2, 3);
                x.rule(i, j);
                x.atom(0, 20, 21);
                x.atom(1, 22, 23);
                due.yes("head " + i + ", " + j, x.certain(i - 20, j - 20));
                due.is("head " + i + ", " + j + ": certainCount", 1, x.certainCount());
            }
        }
    }

    private static void twoRulesOneSet() {
        NaiveNulls x = new NaiveNulls();
        x.addRow(1, 10, 10);
        x.rule(2, 3);
        x.atom(1, 0, 0);
        x.rule(2, 3);
        x.atom(1, 1, 1);
        due.yes("two cases of seven: possible", x.possible(2, 3));
        due.no("two cases of seven: certain", x.certain(2, 3));
        due.no("two cases of seven: alwaysSome", x.alwaysSome());
        x.learn(10, 1);
        due.yes("the second rule is enough", x.certain(2, 3));
        x.dropRules();
        x.rule(20, 0);
        x.atom(1, 20, 20);
        x.rule(0, 20);
        x.atom(1, 20, 20);
        due.is("answers of both rules", 2, x.certainCount());
        due.yes("of the first", x.certain(1, 0));
        due.yes("of the second", x.certain(0, 1));
    }

    private static void alwaysSomeWithoutACertainOne() {
        NaiveNulls x = new NaiveNulls();
        x.addRow(0, 10, 11);
        x.rule(20, 21);
        x.atom(0, 20, 21);
        due.yes("alwaysSome", x.alwaysSome());
        due.is("certainCount", 0, x.certainCount());
        NaiveNulls y = new NaiveNulls();
        y.addRow(0, 0, 1);
        y.addRow(0, 1, 10);
        y.rule(20, 21);
        y.atom(0, 20, 21);
        due.is("one row of two is certain", 1, y.certainCount());
        due.yes("alwaysSome", y.alwaysSome());
    }

    private static void alwaysSomeNeedsEveryCompletion() {
        for (int unknown = 10; unknown <= 12; unknown++) {
            NaiveNulls x = new NaiveNulls();
            for (int i = 0; i < 4; i++) {
                x.addRow(0, i, i);
            }
            x.addRow(1, unknown, 0);
            x.rule(20, 21);
            x.atom(0, 20, 20);
            x.atom(1, 20, 21);
            due.no("an unknown may be above 3", x.alwaysSome());
            due.yes("or not", x.possible(3, 0));
            x.learn(unknown, 3);
            due.yes("learnt", x.alwaysSome());
        }
        NaiveNulls y = new NaiveNulls();
        y.addRow(0, 10, 11);
        y.rule(0, 0);
        due.yes("a head of constants is always there", y.alwaysSome());
    }

    private static void askingChangesNothing() {
        NaiveNulls x = new NaiveNulls();
        x.addRow(0, 10, 1);
        x.addRow(1, 1, 11);
        x.rule(20, 22);
        x.atom(0, 20, 21);
        x.atom(1, 21, 22);
        for (int i = 0; i < 20; i++) {
            due.no("certain", x.certain(6, 6));
            due.yes("possible", x.possible(0, 6));
            due.is("certainCount", 0, x.certainCount());
            due.yes("alwaysSome", x.alwaysSome());
        }
        due.is("the unknowns are still there", 1, x.learn(10, 0));
        due.is("the unknowns are still there", 1, x.learn(11, 0));
        due.yes("and learnt", x.certain(0, 0));
        due.is("rules", 1, x.dropRules());
        due.is("rows of table 0", 0, x.dropRow(0));
        due.is("rows of table 1", 0, x.dropRow(1));
    }
}
