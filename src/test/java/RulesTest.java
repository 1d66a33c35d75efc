/** Promises 5 to 7 and 12: rule, atom, dropRules, and the order of the tests. */
final class RulesTest {
    private static final int[] TERMS = {0, 1, 2, 3, 20, 21, 22, 23};
    private static final int[] NO_TERMS = {
        Integer.MIN_VALUE, -20, -3, -2, -1, 4, 5, 6, 7, 9, 10, 11, 12, 13, 18, 19, 24, 25, Integer.MAX_VALUE};
    private static final int[] NO_TABLES = {Integer.MIN_VALUE, -2, -1, 2, 3, 20, Integer.MAX_VALUE};

    private static final Due due = new Due();

    public static void main(String[] args) {
        ruleAnswers();
        ruleRefuses();
        ruleBeginsWithAnEmptyBody();
        atomAnswers();
        atomRefuses();
        atomGoesToTheLatestRule();
        dropRulesAnswers();
        dropRulesLeavesTheTables();
        addRowOrder();
        ruleOrder();
        atomOrder();
        due.end();
    }

    private static void ruleAnswers() {
        for (int s : TERMS) {
            for (int t : TERMS) {
                NaiveNulls x = new NaiveNulls();
                String call = "rule(" + s + ", " + t + ")";
                due.is(call, 1, x.rule(s, t));
                due.is(call, 2, x.rule(s, t));
                due.is(call + " at 2 rules", -2, x.rule(s, t));
                due.is("dropRules", 2, x.dropRules());
            }
        }
    }

    private static void ruleRefuses() {
        NaiveNulls x = new NaiveNulls();
        for (int bad : NO_TERMS) {
            due.is("rule(" + bad + ", 0)", -1, x.rule(bad, 0));
            due.is("rule(20, " + bad + ")", -1, x.rule(20, bad));
            due.is("rule(" + bad + ", " + bad + ")", -1, x.rule(bad, bad));
        }
        due.is("no rule came of it", 0, x.dropRules());
        x.rule(1, 1);
        x.rule(2, 2);
        x.rule(3, 3);
        due.no("a rule that found no room", x.possible(3, 3));
        due.yes("the first stays", x.certain(1, 1));
        due.yes("the second stays", x.certain(2, 2));
    }

    private static void ruleBeginsWithAnEmptyBody() {
        NaiveNulls x = new NaiveNulls();
        x.rule(1, 1);
        x.atom(0, 20, 20);
        x.atom(0, 20, 20);
        x.rule(2, 2);
        due.yes("the second body is empty", x.certain(2, 2));
        due.is("first atom of the second rule", 1, x.atom(1, 0, 0));
        x.dropRules();
        x.rule(1, 1);
        due.yes("a body is empty after dropRules", x.certain(1, 1));
        due.is("first atom after dropRules", 1, x.atom(1, 0, 0));
        due.no("and it binds", x.possible(1, 1));
        x.rule(3, 3);
        due.yes("the second body is empty after dropRules", x.certain(3, 3));
    }

    private static void atomAnswers() {
        for (int table = 0; table <= 1; table++) {
            for (int s : TERMS) {
                for (int t : TERMS) {
                    NaiveNulls x = new NaiveNulls();
                    String call = "atom(" + table + ", " + s + ", " + t + ")";
                    due.is(call + " without a rule", -3, x.atom(table, s, t));
                    for (int rules = 1; rules <= 2; rules++) {
                        x.rule(0, 0);
                        for (int n = 1; n <= 3; n++) {
                            due.is(call, n, x.atom(table, s, t));
                        }
                        due.is(call + " at 3 atoms", -2, x.atom(table, s, t));
                    }
                }
            }
        }
    }

    private static void atomRefuses() {
        NaiveNulls x = new NaiveNulls();
        x.rule(0, 0);
        for (int bad : NO_TERMS) {
            due.is("atom(0, " + bad + ", 0)", -1, x.atom(0, bad, 0));
            due.is("atom(1, 20, " + bad + ")", -1, x.atom(1, 20, bad));
            due.is("atom(0, " + bad + ", " + bad + ")", -1, x.atom(0, bad, bad));
        }
        for (int bad : NO_TABLES) {
            due.is("atom(" + bad + ", 0, 0)", -1, x.atom(bad, 0, 0));
        }
        due.yes("the body is still empty", x.certain(0, 0));
        due.is("the first atom", 1, x.atom(0, 20, 20));
        x.addRow(0, 1, 1);
        x.atom(0, 20, 20);
        x.atom(0, 20, 20);
        due.is("no room", -2, x.atom(0, 3, 3));
        due.yes("an atom that found no room does not bind", x.certain(0, 0));
    }

    private static void atomGoesToTheLatestRule() {
        NaiveNulls x = new NaiveNulls();
        x.addRow(0, 1, 2);
        x.rule(1, 1);
        x.rule(2, 2);
        x.atom(0, 3, 3);
        due.yes("the first rule is untouched", x.certain(1, 1));
        due.no("the second has the atom", x.possible(2, 2));
        x.dropRules();
        x.rule(20, 0);
        x.atom(0, 20, 21);
        x.rule(20, 3);
        x.atom(1, 20, 21);
        due.yes("first rule over table 0", x.certain(1, 0));
        due.no("second rule over table 1", x.possible(1, 3));
    }

    private static void dropRulesAnswers() {
        NaiveNulls x = new NaiveNulls();
        due.is("dropRules of none", 0, x.dropRules());
        x.rule(0, 0);
        due.is("dropRules of one", 1, x.dropRules());
        due.no("its answer is gone", x.possible(0, 0));
        due.is("atom after dropRules", -3, x.atom(0, 0, 0));
        x.rule(0, 0);
        x.rule(1, 1);
        due.is("dropRules of two", 2, x.dropRules());
        due.is("dropRules again", 0, x.dropRules());
        due.is("no answers are left", 0, x.certainCount());
        due.no("alwaysSome without rules", x.alwaysSome());
        due.is("rule after dropRules", 1, x.rule(2, 2));
        due.no("old rules don't come back", x.possible(1, 1));
    }

    private static void dropRulesLeavesTheTables() {
        NaiveNulls x = new NaiveNulls();
        x.addRow(0, 1, 2);
        x.addRow(1, 3, 10);
        x.rule(0, 0);
        x.dropRules();
        x.rule(20, 21);
        x.atom(0, 20, 21);
        due.yes("table 0 stays", x.certain(1, 2));
        due.is("table 1 stays", 1, x.learn(10, 0));
        due.is("rows of table 1", 2, x.addRow(1, 0, 0));
    }

    private static void addRowOrder() {
        for (int table = 0; table <= 1; table++) {
            NaiveNulls x = new NaiveNulls();
            for (int i = 0; i < 5; i++) {
                x.addRow(table, 0, 0);
            }
            due.is("full, x is no value", -1, x.addRow(table, 4, 0));
            due.is("full, y is no value", -1, x.addRow(table, 0, 13));
            due.is("full, no table", -1, x.addRow(table == 0 ? -1 : 2, 0, 0));
            due.is("full", -2, x.addRow(table, 0, 0));
        }
    }

    private static void ruleOrder() {
        NaiveNulls x = new NaiveNulls();
        x.rule(0, 0);
        x.rule(0, 0);
        due.is("full, x is no term", -1, x.rule(10, 0));
        due.is("full, y is no term", -1, x.rule(0, 24));
        due.is("full", -2, x.rule(0, 0));
    }

    private static void atomOrder() {
        NaiveNulls x = new NaiveNulls();
        due.is("no rule, no table", -1, x.atom(2, 0, 0));
        due.is("no rule, x is no term", -1, x.atom(0, 4, 0));
        due.is("no rule, y is no term", -1, x.atom(0, 0, 19));
        due.is("no rule", -3, x.atom(0, 0, 0));
        x.rule(0, 0);
        for (int i = 0; i < 3; i++) {
            x.atom(0, 0, 0);
        }
        due.is("full, no table", -1, x.atom(-1, 0, 0));
        due.is("full, x is no term", -1, x.atom(1, 10, 0));
        due.is("full, y is no term", -1, x.atom(1, 0, 24));
        due.is("full", -2, x.atom(1, 0, 0));
        x.dropRules();
        due.is("no rule after a full one", -3, x.atom(1, 0, 0));
    }
}
