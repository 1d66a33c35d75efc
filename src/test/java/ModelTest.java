import java.util.ArrayList;
import java.util.List;

/** Long runs of mixed calls, each answer compared with a word-for-word reading of the document. */
final class ModelTest {
    private static final int RUNS = 40;
    private static final int CALLS = 512;

    private static final Due due = new Due();
    private static long seed = 20261115L;

    private final NaiveNulls real = new NaiveNulls();
    private final List<List<int[]>> tables = List.of(new ArrayList<>(), new ArrayList<>());
    private final List<Rule> rules = new ArrayList<>();
    private long certain;
    private long possible;
    private boolean alwaysSome;
    private boolean stale = true;

    private static final class Rule {
        final int x;
        final int y;
        final List<int[]> body = new ArrayList<>();

        Rule(int x, int y) {
            this.x = x;
            this.y = y;
        }

        boolean safe() {
            return safe(x) && safe(y);
        }

        private boolean safe(int term) {
            return term < 20 || body.stream().anyMatch(atom -> atom[1] == term || atom[2] == term);
        }
    }

    public static void main(String[] args) {
        for (int run = 0; run < RUNS; run++) {
            ModelTest test = new ModelTest();
            for (int call = 0; call < CALLS; call++) {
                test.step("run " + run + ", call " + call + ": ");
            }
        }
        due.end();
    }

    // A fixed sequence, so that a failing run can be run again.
    private static int pick(int bound) {
        seed = seed * 6364136223846793005L + 1442695040888963407L;
        return (int) ((seed >>> 33) % bound);
    }

    private static int of(int... choices) {
        return choices[pick(choices.length)];
    }

    private static int someTable() {
        return pick(30) == 0 ? of(-1, 2) : pick(2);
    }

    private static int someValue() {
        return pick(40) == 0 ? of(-1, 4, 9, 13, 20) : of(0, 1, 2, 3, 10, 11, 12, 10, 11);
    }

    private static int someTerm() {
        return pick(40) == 0 ? of(-1, 4, 10, 19, 24) : of(0, 1, 2, 3, 20, 21, 22, 23, 20, 21, 22, 23, 20, 21);
    }

    private void step(String at) {
        int kind = pick(100);
        if (kind < 12) {
            int t = someTable();
            int x = someValue();
            int y = someValue();
            due.is(at + "addRow(" + t + ", " + x + ", " + y + ")", addRow(t, x, y), real.addRow(t, x, y));
        } else if (kind < 16) {
            int t = someTable();
            due.is(at + "dropRow(" + t + ")", dropRow(t), real.dropRow(t));
        } else if (kind < 18) {
            int u = of(10, 11, 12, 10, 11, 12, 9, 13, 0);
            int c = of(0, 1, 2, 3, 0, 1, 2, 3, -1, 4);
            due.is(at + "learn(" + u + ", " + c + ")", learn(u, c), real.learn(u, c));
        } else if (kind < 22) {
            int x = someTerm();
            int y = someTerm();
            due.is(at + "rule(" + x + ", " + y + ")", rule(x, y), real.rule(x, y));
        } else if (kind < 30) {
            int t = someTable();
            int x = someTerm();
            int y = someTerm();
            due.is(at + "atom(" + t + ", " + x + ", " + y + ")", atom(t, x, y), real.atom(t, x, y));
        } else if (kind < 32) {
            int dropped = rules.size();
            rules.clear();
            stale = true;
            due.is(at + "dropRules()", dropped, real.dropRules());
        } else {
            ask(at, kind);
        }
    }

    private void ask(String at, int kind) {
        if (stale) {
            answer();
            stale = false;
        }
        int a = pick(9) - 1;
        int b = pick(9) - 1;
        boolean inside = a >= 0 && a <= 6 && b >= 0 && b <= 6;
        long bit = inside ? 1L << (7 * a + b) : 0;
        if (kind < 50) {
            due.is(at + "certain(" + a + ", " + b + ")", (certain & bit) != 0 ? 1 : 0, real.certain(a, b) ? 1 : 0);
        } else if (kind < 75) {
            due.is(at + "possible(" + a + ", " + b + ")", (possible & bit) != 0 ? 1 : 0, real.possible(a, b) ? 1 : 0);
        } else if (kind < 88) {
            due.is(at + "certainCount()", Long.bitCount(certain), real.certainCount());
        } else {
            due.is(at + "alwaysSome()", alwaysSome ? 1 : 0, real.alwaysSome() ? 1 : 0);
        }
    }

    private static boolean table(int t) {
        return t == 0 || t == 1;
    }

    private static boolean value(int v) {
        return v >= 0 && v <= 3 || v >= 10 && v <= 12;
    }

    private static boolean term(int t) {
        return t >= 0 && t <= 3 || t >= 20 && t <= 23;
    }

    private int addRow(int t, int x, int y) {
        if (!table(t) || !value(x) || !value(y)) {
            return -1;
        }
        if (tables.get(t).size() == 5) {
            return -2;
        }
        stale = true;
        tables.get(t).add(new int[] {x, y});
        return tables.get(t).size();
    }

    private int dropRow(int t) {
        if (!table(t) || tables.get(t).isEmpty()) {
            return -1;
        }
        stale = true;
        tables.get(t).remove(0);
        return tables.get(t).size();
    }

    private int learn(int u, int c) {
        if (u < 10 || u > 12 || c < 0 || c > 3) {
            return -1;
        }
        stale = true;
        int places = 0;
        for (List<int[]> rows : tables) {
            for (int[] row : rows) {
                for (int side = 0; side < 2; side++) {
                    if (row[side] == u) {
                        row[side] = c;
                        places++;
                    }
                }
            }
        }
        return places;
    }

    private int rule(int x, int y) {
        if (!term(x) || !term(y)) {
            return -1;
        }
        if (rules.size() == 2) {
            return -2;
        }
        stale = true;
        rules.add(new Rule(x, y));
        return rules.size();
    }

    private int atom(int t, int x, int y) {
        if (!table(t) || !term(x) || !term(y)) {
            return -1;
        }
        if (rules.isEmpty()) {
            return -3;
        }
        List<int[]> body = rules.get(rules.size() - 1).body;
        if (body.size() == 3) {
            return -2;
        }
        stale = true;
        body.add(new int[] {t, x, y});
        return body.size();
    }

    private void answer() {
        certain = (1L << 49) - 1;
        possible = 0;
        alwaysSome = true;
        for (int p = 0; p < 7; p++) {
            for (int q = 0; q < 7; q++) {
                for (int r = 0; r < 7; r++) {
                    long here = answersIn(new int[] {p, q, r});
                    certain &= here;
                    possible |= here;
                    alwaysSome &= here != 0;
                }
            }
        }
    }

    private long answersIn(int[] completion) {
        boolean[][][] rowThere = new boolean[2][7][7];
        for (int t = 0; t < 2; t++) {
            for (int[] row : tables.get(t)) {
                rowThere[t][complete(row[0], completion)][complete(row[1], completion)] = true;
            }
        }
        long answers = 0;
        for (Rule rule : rules) {
            if (rule.safe()) {
                answers |= answersOf(rule, rowThere);
            }
        }
        return answers;
    }

    private static int complete(int value, int[] completion) {
        return value >= 10 ? completion[value - 10] : value;
    }

    private static long answersOf(Rule rule, boolean[][][] rowThere) {
        long answers = 0;
        int[] choice = new int[4];
        for (int n = 0; n < 7 * 7 * 7 * 7; n++) {
            choice[0] = n % 7;
            choice[1] = n / 7 % 7;
            choice[2] = n / 49 % 7;
            choice[3] = n / 343;
            boolean all = true;
            for (int[] atom : rule.body) {
                all = all && rowThere[atom[0]][choose(atom[1], choice)][choose(atom[2], choice)];
            }
            if (all) {
                answers |= 1L << (7 * choose(rule.x, choice) + choose(rule.y, choice));
            }
        }
        return answers;
    }

    private static int choose(int term, int[] choice) {
        return term >= 20 ? choice[term - 20] : term;
    }
}
