import java.util.function.Consumer;

/** Each sentence on the query that names an edge: the terms of a rule, and promises 5 to 7 and 12. */
final class RuleEdgesTest {
    private static final Due due = new Due();

    public static void main(String[] args) {
        due.sentence("Terms", "A QUERY is a list of up to 2 rules.", RuleEdgesTest::upToTwoRules);
        due.sentence("Terms", "a body, a list of up to 3 atoms", RuleEdgesTest::upToThreeAtoms);
        due.sentence("Terms, in a head", "A TERM is a constant from 0 to 3 or a variable, 20 to 23.",
                RuleEdgesTest::termsOfAHead);
        due.sentence("Terms, in an atom", "A TERM is a constant from 0 to 3 or a variable, 20 to 23.",
                RuleEdgesTest::termsOfAnAtom);
        due.sentence("Promise 5", "Begins a new rule with this head", RuleEdgesTest::ruleHead);
        due.sentence("Promise 5", "and an empty body", RuleEdgesTest::ruleEmptyBody);
        due.sentence("Promise 5", "x [...] neither 0 to 3 nor 20 to 23: BAD", RuleEdgesTest::ruleWrongX);
        due.sentence("Promise 5", "or y neither 0 to 3 nor 20 to 23: BAD", RuleEdgesTest::ruleWrongY);
        due.sentence("Promise 5", "2 rules are there: FULL", RuleEdgesTest::ruleFull);
        due.sentence("Promise 5", "Else answers the number of rules.", RuleEdgesTest::ruleNumber);
        due.sentence("Promise 6", "Adds an atom to the latest rule.", RuleEdgesTest::atomLatest);
        due.sentence("Promise 6", "table outside 0..1 [...]: BAD", RuleEdgesTest::atomWrongTable);
        due.sentence("Promise 6", "x [...] neither 0 to 3 nor 20 to 23: BAD", RuleEdgesTest::atomWrongX);
        due.sentence("Promise 6", "or y neither 0 to 3 nor 20 to 23: BAD", RuleEdgesTest::atomWrongY);
        due.sentence("Promise 6", "there is no rule: NONE", RuleEdgesTest::atomNone);
        due.sentence("Promise 6", "its body has 3 atoms: FULL", RuleEdgesTest::atomFull);
        due.sentence("Promise 6", "Else answers its number of atoms.", RuleEdgesTest::atomNumber);
        due.sentence("Promise 7", "Takes all rules away", RuleEdgesTest::dropRulesAll);
        due.sentence("Promise 7", "answers how many there were", RuleEdgesTest::dropRulesNumber);
        due.sentence("Promise 12", "addRow [...]: BAD is tested before FULL", RuleEdgesTest::addRowBadBeforeFull);
        due.sentence("Promise 12", "[...] rule: BAD is tested before FULL", RuleEdgesTest::ruleBadBeforeFull);
        due.sentence("Promise 12", "atom: BAD, NONE [...] are tested in this order",
                RuleEdgesTest::atomBadBeforeNone);
        due.sentence("Promise 12", "atom: BAD, [...] and FULL are tested in this order",
                RuleEdgesTest::atomBadBeforeFull);
        due.sentence("Promise 12", "atom: [...] NONE and FULL are tested in this order",
                RuleEdgesTest::atomNoneBeforeFull);
        due.end();
    }

    private static void someRows(NaiveNulls x) {
        x.addRow(0, 0, 1);
        x.addRow(0, 1, 10);
        x.addRow(0, 3, 3);
        x.addRow(1, 1, 2);
        x.addRow(1, 10, 11);
    }

    private static void oneRule(NaiveNulls x) {
        someRows(x);
        x.rule(20, 22);
        x.atom(0, 20, 21);
        x.atom(1, 21, 22);
    }

    private static void twoRules(NaiveNulls x) {
        oneRule(x);
        x.rule(23, 0);
        x.atom(0, 23, 23);
    }

    private static void twoFullRules(NaiveNulls x) {
        oneRule(x);
        x.atom(1, 21, 23);
        x.rule(23, 0);
        x.atom(0, 23, 23);
        x.atom(0, 0, 22);
        x.atom(1, 22, 21);
    }

    private static void leavesAll(String calls, Consumer<NaiveNulls> start, Consumer<NaiveNulls> refused) {
        due.same(calls, Picture.of(start), Picture.of(start.andThen(refused)));
    }

    private static void upToTwoRules() {
        NaiveNulls x = new NaiveNulls();
        due.is("no rule: certainCount", 0, x.certainCount());
        x.rule(0, 1);
        due.is("one rule: certainCount", 1, x.certainCount());
        x.rule(2, 3);
        due.is("two rules: certainCount", 2, x.certainCount());
        due.is("a third rule", -2, x.rule(3, 0));
        due.is("two rules still: certainCount", 2, x.certainCount());
        due.yes("the first", x.certain(0, 1));
        due.yes("the second", x.certain(2, 3));
    }

    private static void upToThreeAtoms() {
        for (int missing = 0; missing <= 3; missing++) {
            NaiveNulls x = new NaiveNulls();
            for (int i = 0; i < 3; i++) {
                if (i != missing) {
                    x.addRow(i % 2, i, i);
                }
            }
            for (int rules = 1; rules <= 2; rules++) {
                x.rule(rules, 0);
                x.atom(0, 0, 0);
                x.atom(1, 1, 1);
                x.atom(0, 2, 2);
                String name = "rule " + rules + " without the row of atom " + missing;
                due.is(name, missing == 3 ? 1 : 0, x.certain(rules, 0) ? 1 : 0);
            }
        }
    }

    private static void termsOfAHead() {
        for (int x : new int[] {0, 3, 20, 23}) {
            for (int y : new int[] {0, 3, 20, 23}) {
                NaiveNulls n = new NaiveNulls();
                n.addRow(0, 1, 2);
                due.is("rule(" + x + ", " + y + ")", 1, n.rule(x, y));
                n.atom(0, 20, 23);
                int a = x == 20 ? 1 : x == 23 ? 2 : x;
                int b = y == 20 ? 1 : y == 23 ? 2 : y;
                due.yes("certain(" + a + ", " + b + ")", n.certain(a, b));
                due.is("certainCount", 1, n.certainCount());
            }
        }
        for (int wrong : new int[] {4, 5, 6, 10, 11, 12, 19, 24}) {
            due.is("rule(" + wrong + ", 0)", -1, new NaiveNulls().rule(wrong, 0));
            due.is("rule(0, " + wrong + ")", -1, new NaiveNulls().rule(0, wrong));
        }
    }

    private static void termsOfAnAtom() {
        for (int table : Numbers.tables()) {
            for (int x : new int[] {0, 3, 20, 23}) {
                for (int y : new int[] {0, 3, 20, 23}) {
                    NaiveNulls n = new NaiveNulls();
                    n.addRow(table, 0, 3);
                    n.addRow(table, 3, 3);
                    n.rule(1, 1);
                    due.is("atom(" + table + ", " + x + ", " + y + ")", 1, n.atom(table, x, y));
                    due.is("certain(1, 1)", y == 0 ? 0 : 1, n.certain(1, 1) ? 1 : 0);
                }
            }
        }
        NaiveNulls n = new NaiveNulls();
        n.rule(0, 0);
        for (int wrong : new int[] {4, 5, 6, 10, 11, 12, 19, 24}) {
            due.is("atom(0, " + wrong + ", 0)", -1, n.atom(0, wrong, 0));
            due.is("atom(1, 0, " + wrong + ")", -1, n.atom(1, 0, wrong));
        }
    }

    private static void ruleHead() {
        for (int before = 0; before <= 1; before++) {
            for (int a : Numbers.written()) {
                for (int b : Numbers.written()) {
                    NaiveNulls x = new NaiveNulls();
                    for (int i = 0; i < before; i++) {
                        x.rule(20, 20);
                    }
                    x.rule(a, b);
                    due.yes("certain(" + a + ", " + b + ")", x.certain(a, b));
                    due.is("certainCount", 1, x.certainCount());
                }
            }
        }
    }

    private static void ruleEmptyBody() {
        NaiveNulls x = new NaiveNulls();
        x.rule(0, 0);
        due.yes("the first rule needs no row", x.certain(0, 0));
        x.atom(0, 0, 0);
        x.atom(0, 0, 0);
        x.atom(1, 0, 0);
        due.no("and then three", x.possible(0, 0));
        x.rule(1, 1);
        due.yes("the second rule needs no row", x.certain(1, 1));
        x.atom(1, 0, 0);
        x.atom(1, 0, 0);
        x.atom(1, 0, 0);
        x.dropRules();
        x.rule(2, 2);
        due.yes("the first rule after dropRules needs no row", x.certain(2, 2));
        for (int n = 1; n <= 3; n++) {
            due.is("it has room for three atoms", n, x.atom(0, 0, 0));
        }
        x.rule(3, 3);
        due.yes("the second rule after dropRules needs no row", x.certain(3, 3));
        for (int n = 1; n <= 3; n++) {
            due.is("it has room for three atoms", n, x.atom(0, 0, 0));
        }
    }

    private static void ruleWrongX() {
        int[] wrong = Numbers.outside(Numbers.terms());
        Consumer<NaiveNulls> calls = x -> {
            for (int term : wrong) {
                due.is("rule(" + term + ", 1)", -1, x.rule(term, 1));
            }
        };
        calls.accept(new NaiveNulls());
        leavesAll("rule with a wrong x", RuleEdgesTest::someRows, calls);
        leavesAll("rule with a wrong x", RuleEdgesTest::oneRule, calls);
    }

    private static void ruleWrongY() {
        int[] wrong = Numbers.outside(Numbers.terms());
        Consumer<NaiveNulls> calls = x -> {
            for (int term : wrong) {
                due.is("rule(1, " + term + ")", -1, x.rule(1, term));
            }
        };
        calls.accept(new NaiveNulls());
        leavesAll("rule with a wrong y", RuleEdgesTest::someRows, calls);
        leavesAll("rule with a wrong y", RuleEdgesTest::oneRule, calls);
    }

    private static void ruleFull() {
        NaiveNulls x = new NaiveNulls();
        due.is("first rule", 1, x.rule(0, 0));
        due.is("second rule", 2, x.rule(0, 0));
        due.is("third rule", -2, x.rule(0, 0));
        due.is("third rule, again", -2, x.rule(20, 23));
        due.is("two rules are there", 2, x.dropRules());
        due.is("there is room again", 1, x.rule(0, 0));
        Consumer<NaiveNulls> calls = n -> due.is("rule(1, 1)", -2, n.rule(1, 1));
        leavesAll("a third rule", RuleEdgesTest::twoRules, calls);
        leavesAll("a third rule beside full bodies", RuleEdgesTest::twoFullRules, calls);
    }

    private static void ruleNumber() {
        NaiveNulls x = new NaiveNulls();
        due.is("first rule", 1, x.rule(20, 21));
        x.atom(0, 20, 21);
        x.atom(0, 20, 21);
        x.rule(4, 0);
        due.is("second rule, after atoms and BAD", 2, x.rule(3, 0));
        x.dropRules();
        due.is("first rule after dropRules", 1, x.rule(0, 3));
        due.is("second rule after dropRules", 2, x.rule(0, 3));
    }

    private static void atomLatest() {
        NaiveNulls x = new NaiveNulls();
        x.rule(0, 0);
        x.atom(0, 20, 21);
        due.no("the only rule has it", x.possible(0, 0));
        x.dropRules();
        x.rule(0, 0);
        x.rule(1, 1);
        x.atom(0, 20, 21);
        due.yes("the first of two has it not", x.certain(0, 0));
        due.no("the second of two has it", x.possible(1, 1));
        x.rule(2, 2);
        due.is("after a rule that was FULL, the second is the latest", 2, x.atom(0, 20, 21));
        x.rule(4, 4);
        due.is("after a rule that was BAD, the second is the latest", 3, x.atom(0, 20, 21));
        due.yes("the first has none of them", x.certain(0, 0));
        x.dropRules();
        x.rule(0, 0);
        due.is("the first is the latest after dropRules", 1, x.atom(0, 20, 21));
        due.no("and has the atom", x.possible(0, 0));
        NaiveNulls one = new NaiveNulls();
        one.rule(3, 3);
        one.rule(4, 0);
        due.is("after a rule that was BAD, the first is the latest", 1, one.atom(0, 20, 21));
    }

    private static void atomWrongTable() {
        int[] wrong = Numbers.outside(Numbers.tables());
        Consumer<NaiveNulls> calls = x -> {
            for (int table : wrong) {
                due.is("atom(" + table + ", 2, 22)", -1, x.atom(table, 2, 22));
            }
        };
        leavesAll("atom with a wrong table", RuleEdgesTest::oneRule, calls);
        leavesAll("atom with a wrong table", RuleEdgesTest::twoRules, calls);
    }

    private static void atomWrongX() {
        int[] wrong = Numbers.outside(Numbers.terms());
        for (int table : Numbers.tables()) {
            Consumer<NaiveNulls> calls = x -> {
                for (int term : wrong) {
                    due.is("atom(" + table + ", " + term + ", 2)", -1, x.atom(table, term, 2));
                }
            };
            leavesAll("atom with a wrong x", RuleEdgesTest::oneRule, calls);
            leavesAll("atom with a wrong x", RuleEdgesTest::twoRules, calls);
        }
    }

    private static void atomWrongY() {
        int[] wrong = Numbers.outside(Numbers.terms());
        for (int table : Numbers.tables()) {
            Consumer<NaiveNulls> calls = x -> {
                for (int term : wrong) {
                    due.is("atom(" + table + ", 2, " + term + ")", -1, x.atom(table, 2, term));
                }
            };
            leavesAll("atom with a wrong y", RuleEdgesTest::oneRule, calls);
            leavesAll("atom with a wrong y", RuleEdgesTest::twoRules, calls);
        }
    }

    private static void atomNone() {
        for (int table : Numbers.tables()) {
            due.is("new", -3, new NaiveNulls().atom(table, 0, 20));
            NaiveNulls x = new NaiveNulls();
            x.rule(4, 0);
            due.is("after a rule that was BAD", -3, x.atom(table, 3, 23));
            x.rule(0, 0);
            x.rule(0, 0);
            x.dropRules();
            due.is("after dropRules of two", -3, x.atom(table, 0, 0));
            due.is("again", -3, x.atom(table, 0, 0));
            x.rule(0, 0);
            due.is("the atoms that found no rule are not in the next", 1, x.atom(table, 0, 0));
        }
        leavesAll("atom without a rule", RuleEdgesTest::someRows, x -> due.is("atom", -3, x.atom(0, 0, 0)));
    }

    private static void atomFull() {
        NaiveNulls x = new NaiveNulls();
        for (int rules = 1; rules <= 2; rules++) {
            x.rule(0, 0);
            for (int n = 1; n <= 3; n++) {
                due.is("atom " + n + " of rule " + rules, n, x.atom(n % 2, 0, 0));
            }
            due.is("a fourth atom of rule " + rules, -2, x.atom(0, 0, 0));
            due.is("a fourth atom of rule " + rules + ", again", -2, x.atom(1, 20, 0));
        }
        Consumer<NaiveNulls> calls = n -> due.is("atom(0, 2, 2)", -2, n.atom(0, 2, 2));
        leavesAll("a fourth atom", RuleEdgesTest::twoFullRules, calls);
        NaiveNulls y = new NaiveNulls();
        y.rule(0, 0);
        y.rule(0, 0);
        for (int n = 1; n <= 3; n++) {
            due.is("atom " + n + " of the second, the first being empty", n, y.atom(0, 20, 20));
        }
        due.is("no fourth, though the first is empty", -2, y.atom(0, 20, 20));
        due.yes("the first is still empty", y.certain(0, 0));
    }

    private static void atomNumber() {
        NaiveNulls x = new NaiveNulls();
        x.rule(0, 0);
        due.is("first atom", 1, x.atom(0, 0, 0));
        x.atom(2, 0, 0);
        due.is("second atom, after BAD, equal to the first", 2, x.atom(0, 0, 0));
        x.rule(0, 0);
        due.is("first atom of the second rule", 1, x.atom(1, 0, 0));
        due.is("second atom of the second rule", 2, x.atom(0, 23, 0));
        x.rule(0, 0);
        due.is("third atom of the second rule, after FULL", 3, x.atom(1, 23, 0));
    }

    private static void dropRulesAll() {
        for (int rules = 0; rules <= 2; rules++) {
            NaiveNulls x = new NaiveNulls();
            for (int i = 0; i < rules; i++) {
                x.rule(i, i);
            }
            x.dropRules();
            due.is("certainCount", 0, x.certainCount());
            due.no("alwaysSome", x.alwaysSome());
            due.no("possible(0, 0)", x.possible(0, 0));
            due.no("possible(1, 1)", x.possible(1, 1));
            due.is("atom", -3, x.atom(0, 0, 0));
            due.is("rule", 1, x.rule(2, 2));
            due.is("certainCount with a new one", 1, x.certainCount());
        }
        Consumer<NaiveNulls> twoGone = RuleEdgesTest::twoFullRules;
        due.same("dropRules", Picture.of(RuleEdgesTest::someRows), Picture.of(twoGone.andThen(x -> x.dropRules())));
    }

    private static void dropRulesNumber() {
        NaiveNulls x = new NaiveNulls();
        due.is("none", 0, x.dropRules());
        x.rule(20, 20);
        due.is("one", 1, x.dropRules());
        due.is("none after it", 0, x.dropRules());
        x.rule(20, 20);
        x.atom(0, 20, 20);
        x.rule(20, 20);
        due.is("two", 2, x.dropRules());
        due.is("none after them", 0, x.dropRules());
        x.rule(4, 4);
        due.is("none of a rule that was BAD", 0, x.dropRules());
        for (int i = 0; i < 3; i++) {
            x.rule(0, 0);
        }
        due.is("two of three, one being FULL", 2, x.dropRules());
    }

    private static void addRowBadBeforeFull() {
        NaiveNulls x = new NaiveNulls();
        for (int i = 0; i < 5; i++) {
            x.addRow(0, 0, 0);
            x.addRow(1, 0, 0);
        }
        for (int table : Numbers.tables()) {
            for (int wrong : new int[] {-1, 4, 6, 9, 13, 20}) {
                due.is("addRow(" + table + ", " + wrong + ", 0)", -1, x.addRow(table, wrong, 0));
                due.is("addRow(" + table + ", 0, " + wrong + ")", -1, x.addRow(table, 0, wrong));
            }
            due.is("addRow(" + table + ", 0, 0)", -2, x.addRow(table, 0, 0));
        }
        due.is("addRow(-1, 0, 0)", -1, x.addRow(-1, 0, 0));
        due.is("addRow(2, 0, 0)", -1, x.addRow(2, 0, 0));
    }

    private static void ruleBadBeforeFull() {
        NaiveNulls x = new NaiveNulls();
        x.rule(0, 0);
        x.rule(0, 0);
        for (int wrong : new int[] {-1, 4, 10, 19, 24}) {
            due.is("rule(" + wrong + ", 0)", -1, x.rule(wrong, 0));
            due.is("rule(0, " + wrong + ")", -1, x.rule(0, wrong));
        }
        due.is("rule(0, 0)", -2, x.rule(0, 0));
    }

    private static void wrongAtoms(String state, NaiveNulls x) {
        for (int wrong : new int[] {-1, 4, 10, 19, 24}) {
            due.is(state + ": atom(0, " + wrong + ", 0)", -1, x.atom(0, wrong, 0));
            due.is(state + ": atom(1, 0, " + wrong + ")", -1, x.atom(1, 0, wrong));
        }
        due.is(state + ": atom(-1, 0, 0)", -1, x.atom(-1, 0, 0));
        due.is(state + ": atom(2, 0, 0)", -1, x.atom(2, 0, 0));
    }

    private static void atomBadBeforeNone() {
        NaiveNulls x = new NaiveNulls();
        wrongAtoms("new", x);
        due.is("new: atom(0, 0, 0)", -3, x.atom(0, 0, 0));
        x.rule(0, 0);
        x.dropRules();
        wrongAtoms("after dropRules", x);
        due.is("after dropRules: atom(0, 0, 0)", -3, x.atom(0, 0, 0));
    }

    private static void atomBadBeforeFull() {
        NaiveNulls x = new NaiveNulls();
        for (int rules = 1; rules <= 2; rules++) {
            x.rule(0, 0);
            for (int i = 0; i < 3; i++) {
                x.atom(0, 0, 0);
            }
            wrongAtoms("full rule " + rules, x);
            due.is("full rule " + rules + ": atom(0, 0, 0)", -2, x.atom(0, 0, 0));
        }
    }

    /** No rule can be both absent and full: NONE is due even where the rules that are gone were full. */
    private static void atomNoneBeforeFull() {
        for (int rules = 1; rules <= 2; rules++) {
            NaiveNulls x = new NaiveNulls();
            for (int n = 0; n < 3 * rules; n++) {
                if (n % 3 == 0) {
                    x.rule(0, 0);
                }
                x.atom(0, 0, 0);
            }
            due.is("full", -2, x.atom(0, 0, 0));
            x.dropRules();
            due.is("gone", -3, x.atom(0, 0, 0));
        }
    }
}
