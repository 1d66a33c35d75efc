import java.util.function.ToIntFunction;

/** Each sentence on the answers that names an edge: the terms of an answer, 512 calls, and promises 8 to 11. */
final class AnswerEdgesTest {
    private static final Due due = new Due();

    public static void main(String[] args) {
        due.sentence("What it is", "An object is used for at most 512 calls after it has been made",
                AnswerEdgesTest::callsOfAnObject);
        due.sentence("Terms", "A COMPLETION gives each of the three unknowns a constant from 0 to 6",
                AnswerEdgesTest::constantsOfACompletion);
        due.sentence("Terms", "puts it in place of the unknown everywhere in both tables",
                AnswerEdgesTest::everywhereInBothTables);
        due.sentence("Terms, a head without variables", "A rule is SAFE iff every variable of its head [...]",
                AnswerEdgesTest::safeHeadOfConstants);
        due.sentence("Terms", "A rule is SAFE iff every variable of its head is in some atom of its body.",
                AnswerEdgesTest::safeEveryVariable);
        due.sentence("Terms", "is in some atom", AnswerEdgesTest::safeSomeAtom);
        due.sentence("Terms", "of its body", AnswerEdgesTest::safeItsBody);
        due.sentence("Terms", "an ANSWER iff for some safe rule", AnswerEdgesTest::someSafeRule);
        due.sentence("Terms, one for all its places", "a choice of a constant for each variable",
                AnswerEdgesTest::oneConstantForAVariable);
        due.sentence("Terms, any of 0 to 6", "a choice of a constant for each variable",
                AnswerEdgesTest::anyConstantForAVariable);
        due.sentence("Terms, over full tables", "each atom becomes a row", AnswerEdgesTest::eachAtom);
        due.sentence("Terms", "a row of its table", AnswerEdgesTest::rowOfItsTable);
        due.sentence("Terms", "CERTAIN iff it is an answer in every completion",
                AnswerEdgesTest::certainInEveryCompletion);
        due.sentence("Terms", "POSSIBLE iff it is one in some completion", AnswerEdgesTest::possibleInSomeCompletion);
        due.sentence("Promise 8", "false for numbers outside 0..6", AnswerEdgesTest::certainOutside);
        due.sentence("Promise 8", "Whether (a, b) is certain", AnswerEdgesTest::certainInside);
        due.sentence("Promise 9", "false for numbers outside 0..6", AnswerEdgesTest::possibleOutside);
        due.sentence("Promise 9", "Whether (a, b) is possible", AnswerEdgesTest::possibleInside);
        due.sentence("Promise 10", "The number of certain couples.", AnswerEdgesTest::numberOfCertain);
        due.sentence("Promise 10, and of no other", "The number of certain couples.",
                AnswerEdgesTest::onlyCertainAreCounted);
        due.sentence("Promise 11", "Whether in every completion there is some answer",
                AnswerEdgesTest::someAnswerInEvery);
        due.sentence("Promise 11", "(not necessarily always the same one)", AnswerEdgesTest::notTheSameAnswer);
        due.sentence("Promise 11, without a rule or a row", "Whether in every completion there is some answer",
                AnswerEdgesTest::noAnswerAtAll);
        due.end();
    }

    private static int bit(boolean answer) {
        return answer ? 1 : 0;
    }

    /** The 512th call of an object that has been used for 511, the last 11 of which leave a known state. */
    private static void last(String call, int want, ToIntFunction<NaiveNulls> ask) {
        NaiveNulls x = new NaiveNulls();
        for (int i = 0; i < 100; i++) {
            x.addRow(0, 3, 10);
            x.dropRow(0);
            x.rule(0, 0);
            x.dropRules();
            x.possible(0, 0);
        }
        x.addRow(0, 1, 2);
        x.addRow(0, 1, 10);
        x.addRow(1, 3, 3);
        x.rule(20, 21);
        x.atom(0, 20, 21);
        x.rule(20, 0);
        x.atom(1, 20, 20);
        x.learn(12, 0);
        x.certain(1, 2);
        x.certainCount();
        x.alwaysSome();
        due.is("call 512, " + call, want, ask.applyAsInt(x));
    }

    private static void callsOfAnObject() {
        last("addRow(0, 0, 0)", 3, x -> x.addRow(0, 0, 0));
        last("dropRow(1)", 0, x -> x.dropRow(1));
        last("learn(10, 3)", 1, x -> x.learn(10, 3));
        last("rule(0, 0)", -2, x -> x.rule(0, 0));
        last("atom(0, 0, 0)", 2, x -> x.atom(0, 0, 0));
        last("dropRules()", 2, x -> x.dropRules());
        last("certain(1, 2)", 1, x -> bit(x.certain(1, 2)));
        last("certain(1, 6)", 0, x -> bit(x.certain(1, 6)));
        last("possible(1, 6)", 1, x -> bit(x.possible(1, 6)));
        last("possible(0, 3)", 0, x -> bit(x.possible(0, 3)));
        last("certainCount()", 2, x -> x.certainCount());
        last("alwaysSome()", 1, x -> bit(x.alwaysSome()));
    }

    private static void constantsOfACompletion() {
        for (int u : Numbers.unknowns()) {
            for (int v : Numbers.unknowns()) {
                NaiveNulls x = new NaiveNulls();
                x.addRow(0, u, v);
                x.rule(20, 21);
                x.atom(0, 20, 21);
                for (int n = 0; n < 49; n++) {
                    boolean there = u != v || n / 7 == n % 7;
                    String call = "row (" + u + ", " + v + "): possible(" + n / 7 + ", " + n % 7 + ")";
                    due.is(call, bit(there), bit(x.possible(n / 7, n % 7)));
                }
                due.is("no couple is certain", 0, x.certainCount());
            }
        }
        NaiveNulls all = new NaiveNulls();
        all.addRow(0, 10, 11);
        all.addRow(1, 12, 12);
        all.rule(20, 20);
        all.atom(0, 20, 20);
        all.atom(1, 20, 20);
        for (int a = 0; a <= 6; a++) {
            due.yes("all three: possible(" + a + ", " + a + ")", all.possible(a, a));
        }
    }

    private static void everywhereInBothTables() {
        for (int unknown : Numbers.unknowns()) {
            NaiveNulls x = new NaiveNulls();
            for (int i = 0; i < 4; i++) {
                x.addRow(0, i, i);
                x.addRow(1, i, i);
            }
            x.addRow(0, 0, unknown);
            x.addRow(1, unknown, 1);
            x.rule(20, 22);
            x.atom(0, 20, 21);
            x.atom(1, 21, 22);
            due.yes("the fifth rows always join", x.certain(0, 1));
            due.no("no other couple comes of it for sure", x.certain(1, 0));
            due.is("certainCount", 5, x.certainCount());
        }
    }

    private static void safeHeadOfConstants() {
        for (int a : new int[] {0, 3}) {
            for (int b : new int[] {0, 3}) {
                NaiveNulls x = new NaiveNulls();
                x.rule(a, b);
                due.yes("empty tables and body: certain(" + a + ", " + b + ")", x.certain(a, b));
                due.yes("empty tables and body: possible(" + a + ", " + b + ")", x.possible(a, b));
                due.is("empty tables and body: certainCount", 1, x.certainCount());
                due.yes("empty tables and body: alwaysSome", x.alwaysSome());
                x.addRow(1, 2, 10);
                x.atom(1, 22, 23);
                due.yes("variables of the body alone: certain(" + a + ", " + b + ")", x.certain(a, b));
            }
        }
    }

    private static void unsafe(String name, NaiveNulls x) {
        due.is(name + ": certainCount", 0, x.certainCount());
        due.no(name + ": alwaysSome", x.alwaysSome());
        for (int n = 0; n < 49; n++) {
            due.no(name + ": possible(" + n / 7 + ", " + n % 7 + ")", x.possible(n / 7, n % 7));
        }
    }

    private static void safeEveryVariable() {
        for (int v = 20; v <= 23; v++) {
            int other = v == 23 ? 20 : v + 1;
            int[][] heads = {{v, v}, {v, 1}, {1, v}, {v, other}, {other, v}};
            for (int[] head : heads) {
                NaiveNulls x = new NaiveNulls();
                x.addRow(0, 1, 1);
                x.rule(head[0], head[1]);
                String name = "head (" + head[0] + ", " + head[1] + ")";
                unsafe(name + " and no atom", x);
                x.atom(0, other, other);
                unsafe(name + " and " + other, x);
                x.atom(0, 1, 1);
                unsafe(name + " and " + other + " and constants", x);
                x.atom(0, v, v);
                due.yes(name + " and both", x.certain(1, 1));
            }
        }
    }

    private static void safeSomeAtom() {
        for (int table : Numbers.tables()) {
            for (int at = 0; at < 3; at++) {
                for (int side = 0; side < 2; side++) {
                    NaiveNulls x = new NaiveNulls();
                    x.addRow(table, 2, 2);
                    x.rule(20, 20);
                    for (int i = 0; i < 3; i++) {
                        int term = i == at ? 20 : 21;
                        x.atom(table, side == 0 ? term : 21, side == 0 ? 21 : term);
                    }
                    due.yes("the variable on side " + side + " of atom " + at, x.certain(2, 2));
                }
            }
        }
    }

    private static void safeItsBody() {
        NaiveNulls first = new NaiveNulls();
        first.addRow(0, 1, 1);
        first.rule(2, 20);
        first.atom(0, 21, 21);
        first.atom(0, 21, 21);
        first.atom(0, 21, 21);
        first.rule(1, 1);
        first.atom(0, 20, 20);
        due.is("the next rule's atom", 1, first.certainCount());
        due.no("the next rule's atom", first.possible(2, 1));
        NaiveNulls second = new NaiveNulls();
        second.addRow(0, 1, 1);
        second.rule(1, 1);
        second.atom(0, 20, 20);
        second.rule(2, 20);
        due.is("the rule before's atom", 1, second.certainCount());
        due.no("the rule before's atom", second.possible(2, 1));
        NaiveNulls gone = new NaiveNulls();
        gone.addRow(0, 1, 1);
        gone.rule(1, 1);
        gone.atom(0, 20, 20);
        gone.dropRules();
        gone.rule(2, 20);
        unsafe("an atom that is gone", gone);
    }

    private static void someSafeRule() {
        int[][] heads = {{0, 1}, {2, 3}, {0, 20}};
        for (int first = 0; first < 3; first++) {
            for (int second = 0; second < 3; second++) {
                NaiveNulls x = new NaiveNulls();
                x.rule(heads[first][0], heads[first][1]);
                x.rule(heads[second][0], heads[second][1]);
                String name = "rules " + first + " and " + second;
                due.is(name + ": (0, 1)", bit(first == 0 || second == 0), bit(x.certain(0, 1)));
                due.is(name + ": (2, 3)", bit(first == 1 || second == 1), bit(x.certain(2, 3)));
                due.is(name + ": alwaysSome", bit(first < 2 || second < 2), bit(x.alwaysSome()));
                due.no(name + ": (0, 0)", x.possible(0, 0));
            }
        }
    }

    private static void oneConstantForAVariable() {
        NaiveNulls x = new NaiveNulls();
        x.addRow(0, 0, 1);
        x.addRow(0, 2, 2);
        x.addRow(1, 1, 3);
        x.rule(20, 21);
        x.atom(0, 20, 20);
        x.atom(0, 21, 21);
        due.is("in one atom", 1, x.certainCount());
        due.yes("in one atom and in the head", x.certain(2, 2));
        x.dropRules();
        x.rule(20, 22);
        x.atom(0, 20, 21);
        x.atom(1, 21, 22);
        due.is("in two atoms", 1, x.certainCount());
        due.yes("in two atoms", x.certain(0, 3));
        x.dropRules();
        x.rule(23, 23);
        x.atom(0, 20, 23);
        x.atom(1, 23, 21);
        x.atom(0, 23, 22);
        noneAlways("in three atoms, of which two fit", x);
        x.addRow(0, 1, 0);
        due.yes("in three atoms, all of which fit", x.certain(1, 1));
    }

    private static void noneAlways(String name, NaiveNulls x) {
        due.is(name + ": certainCount", 0, x.certainCount());
        due.no(name + ": alwaysSome", x.alwaysSome());
    }

    private static void anyConstantForAVariable() {
        NaiveNulls x = new NaiveNulls();
        x.addRow(0, 10, 10);
        x.rule(20, 23);
        x.atom(0, 20, 21);
        x.atom(0, 22, 23);
        due.yes("four variables with one constant", x.alwaysSome());
        for (int a = 0; a <= 6; a++) {
            due.yes("possible(" + a + ", " + a + ")", x.possible(a, a));
            due.no("possible(" + a + ", " + (6 - a) + ")", a != 3 && x.possible(a, 6 - a));
        }
        NaiveNulls y = new NaiveNulls();
        y.addRow(0, 1, 10);
        y.addRow(1, 10, 2);
        y.rule(20, 22);
        y.atom(0, 20, 21);
        y.atom(1, 21, 22);
        due.yes("a variable of the body is 0 to 6, as the unknown is", y.certain(1, 2));
    }

    private static void eachAtom() {
        for (int at = 0; at < 5; at++) {
            NaiveNulls x = new NaiveNulls();
            for (int i = 0; i < 5; i++) {
                x.addRow(0, 0, i == at ? 1 : 0);
                x.addRow(1, i == at ? 1 : 0, 2);
            }
            x.rule(3, 3);
            due.yes("no atom", x.certain(3, 3));
            x.atom(0, 20, 1);
            x.atom(1, 1, 21);
            due.yes("two atoms with row " + at, x.certain(3, 3));
            x.atom(0, 20, 1);
            due.yes("three atoms with row " + at, x.certain(3, 3));
            x.rule(2, 2);
            x.atom(0, 20, 1);
            x.atom(1, 1, 21);
            x.atom(1, 3, 21);
            due.no("three atoms, the last of which is no row", x.possible(2, 2));
            x.dropRules();
            x.rule(2, 2);
            x.atom(0, 2, 1);
            x.atom(1, 1, 2);
            x.atom(0, 0, 1);
            due.no("three atoms, the first of which is no row", x.possible(2, 2));
        }
    }

    private static void rowOfItsTable() {
        for (int table : Numbers.tables()) {
            NaiveNulls x = new NaiveNulls();
            for (int i = 0; i < 5; i++) {
                x.addRow(1 - table, 2, 2);
            }
            x.rule(0, 0);
            x.atom(table, 20, 21);
            due.no("an atom over the empty table " + table, x.possible(0, 0));
            x.addRow(table, 2, 1);
            due.yes("an atom over the only row of table " + table, x.certain(0, 0));
            constantAtom(x, table, 2, 1);
            due.yes("the row of table " + table, x.certain(0, 0));
            constantAtom(x, 1 - table, 2, 1);
            due.no("the other table has it not", x.possible(0, 0));
            constantAtom(x, table, 2, 2);
            due.no("a row of the other table", x.possible(0, 0));
            constantAtom(x, table, 1, 2);
            due.no("the row turned", x.possible(0, 0));
            x.dropRow(table);
            constantAtom(x, table, 2, 1);
            due.no("the row dropped", x.possible(0, 0));
        }
    }

    /** Puts one rule in place of all: (0, 0) is an answer iff the couple is a row of the table. */
    private static void constantAtom(NaiveNulls x, int table, int a, int b) {
        x.dropRules();
        x.rule(0, 0);
        x.atom(table, a, b);
    }

    /** The query answers (3, 3) in all completions but the six that give 4, 5 and 6 to the unknowns. */
    private static NaiveNulls allButSix() {
        NaiveNulls x = new NaiveNulls();
        x.addRow(0, 10, 11);
        x.addRow(0, 11, 12);
        x.addRow(0, 12, 10);
        for (int i = 0; i < 4; i++) {
            x.addRow(1, i, i);
        }
        x.rule(3, 3);
        x.atom(0, 20, 20);
        x.rule(3, 3);
        x.atom(0, 20, 21);
        x.atom(1, 20, 20);
        return x;
    }

    private static void certainInEveryCompletion() {
        NaiveNulls x = allButSix();
        due.no("337 of 343", x.certain(3, 3));
        due.yes("337 of 343: possible", x.possible(3, 3));
        due.is("337 of 343: certainCount", 0, x.certainCount());
        x.addRow(0, 1, 1);
        due.yes("all of 343", x.certain(3, 3));
        for (int unknown : Numbers.unknowns()) {
            NaiveNulls y = allButSix();
            y.learn(unknown, 0);
            due.yes("all of 343, with " + unknown + " learnt", y.certain(3, 3));
        }
        NaiveNulls none = new NaiveNulls();
        none.addRow(0, 2, 1);
        none.rule(20, 21);
        none.atom(0, 20, 21);
        for (int n = 0; n < 49; n++) {
            due.is("without unknowns", bit(n == 2 * 7 + 1), bit(none.certain(n / 7, n % 7)));
            due.is("without unknowns", bit(n == 2 * 7 + 1), bit(none.possible(n / 7, n % 7)));
        }
    }

    private static void possibleInSomeCompletion() {
        NaiveNulls x = new NaiveNulls();
        x.addRow(0, 10, 11);
        x.addRow(1, 12, 12);
        for (int n = 0; n < 64; n++) {
            x.rule(0, 3);
            x.atom(0, n % 4, n / 4 % 4);
            x.atom(1, n / 16, n / 16);
            due.yes("one of 343: " + n % 4 + ", " + n / 4 % 4 + ", " + n / 16, x.possible(0, 3));
            x.dropRules();
        }
        int[][] unknowns = {{10, 11, 12}, {10, 12, 11}, {11, 12, 10}};
        for (int[] u : unknowns) {
            for (int side = 20; side <= 21; side++) {
                NaiveNulls y = new NaiveNulls();
                y.addRow(0, u[0], u[1]);
                y.addRow(1, u[2], u[2]);
                y.rule(20, 21);
                y.atom(0, 20, 21);
                y.atom(1, side, side);
                for (int n = 0; n < 49; n++) {
                    String call = "one of 343: possible(" + n / 7 + ", " + n % 7 + ")";
                    due.yes(call, y.possible(n / 7, n % 7));
                }
                due.is("one of 343: certainCount", 0, y.certainCount());
            }
        }
        NaiveNulls never = new NaiveNulls();
        never.addRow(0, 10, 10);
        never.rule(0, 0);
        never.atom(0, 1, 2);
        due.no("none of 343", never.possible(0, 0));
    }

    /** All 16 couples of 0 to 3 are certain. */
    private static NaiveNulls allCertain() {
        NaiveNulls x = new NaiveNulls();
        for (int i = 0; i < 4; i++) {
            x.addRow(0, i, i);
        }
        x.rule(20, 21);
        x.atom(0, 20, 20);
        x.atom(0, 21, 21);
        return x;
    }

    /** All 49 couples are possible. */
    private static NaiveNulls allPossible() {
        NaiveNulls x = new NaiveNulls();
        x.addRow(0, 10, 11);
        x.rule(20, 21);
        x.atom(0, 20, 21);
        return x;
    }

    private static void certainOutside() {
        for (int wrong : Numbers.outside(Numbers.constants())) {
            NaiveNulls x = allCertain();
            for (int right : Numbers.constants()) {
                due.no("certain(" + wrong + ", " + right + ")", x.certain(wrong, right));
                due.no("certain(" + right + ", " + wrong + ")", x.certain(right, wrong));
            }
            for (int other : new int[] {wrong, -wrong, -1, 7, 64, -64}) {
                due.no("certain(" + wrong + ", " + other + ")", !inside(other) && x.certain(wrong, other));
            }
            due.is("certainCount after it", 16, x.certainCount());
        }
    }

    private static boolean inside(int constant) {
        return constant >= 0 && constant <= 6;
    }

    private static void certainInside() {
        NaiveNulls x = allCertain();
        for (int n = 0; n < 49; n++) {
            boolean there = n / 7 <= 3 && n % 7 <= 3;
            due.is("certain(" + n / 7 + ", " + n % 7 + ")", bit(there), bit(x.certain(n / 7, n % 7)));
        }
        NaiveNulls y = allPossible();
        for (int n = 0; n < 49; n++) {
            due.no("possible alone: certain(" + n / 7 + ", " + n % 7 + ")", y.certain(n / 7, n % 7));
        }
    }

    private static void possibleOutside() {
        for (int wrong : Numbers.outside(Numbers.constants())) {
            NaiveNulls x = allPossible();
            for (int right : Numbers.constants()) {
                due.no("possible(" + wrong + ", " + right + ")", x.possible(wrong, right));
                due.no("possible(" + right + ", " + wrong + ")", x.possible(right, wrong));
            }
            for (int other : new int[] {wrong, -wrong, -1, 7, 64, -64}) {
                due.no("possible(" + wrong + ", " + other + ")", !inside(other) && x.possible(wrong, other));
            }
            due.yes("alwaysSome after it", x.alwaysSome());
        }
    }

    private static void possibleInside() {
        NaiveNulls x = allPossible();
        for (int n = 0; n < 49; n++) {
            due.yes("possible(" + n / 7 + ", " + n % 7 + ")", x.possible(n / 7, n % 7));
        }
        NaiveNulls y = allCertain();
        for (int n = 0; n < 49; n++) {
            boolean there = n / 7 <= 3 && n % 7 <= 3;
            due.is("possible(" + n / 7 + ", " + n % 7 + ")", bit(there), bit(y.possible(n / 7, n % 7)));
        }
    }

    private static void numberOfCertain() {
        for (int k = 0; k <= 4; k++) {
            for (int m = 0; m <= 4; m++) {
                NaiveNulls x = new NaiveNulls();
                for (int i = 0; i < k; i++) {
                    x.addRow(0, 3 - i, 3 - i);
                }
                for (int i = 0; i < m; i++) {
                    x.addRow(1, i, i);
                }
                x.rule(20, 21);
                x.atom(0, 20, 20);
                x.atom(1, 21, 21);
                due.is(k + " by " + m, k * m, x.certainCount());
                x.rule(20, 21);
                x.atom(0, 20, 20);
                x.atom(1, 21, 21);
                due.is(k + " by " + m + ", told by two rules", k * m, x.certainCount());
            }
        }
    }

    private static void onlyCertainAreCounted() {
        due.is("no rules", 0, new NaiveNulls().certainCount());
        due.is("possible ones alone", 0, allPossible().certainCount());
        due.is("one that some completions have not", 0, allButSix().certainCount());
        NaiveNulls x = allPossible();
        x.addRow(0, 3, 3);
        due.is("one beside possible ones", 1, x.certainCount());
        x.addRow(0, 3, 3);
        due.is("an equal row", 1, x.certainCount());
        x.rule(20, 0);
        due.is("an unsafe rule", 1, x.certainCount());
        x.learn(10, 0);
        due.is("one unknown learnt", 1, x.certainCount());
        x.learn(11, 0);
        due.is("both learnt", 2, x.certainCount());
    }

    private static void someAnswerInEvery() {
        NaiveNulls x = allButSix();
        due.no("337 of 343", x.alwaysSome());
        x.addRow(0, 2, 2);
        due.yes("all of 343", x.alwaysSome());
        for (int unknown : Numbers.unknowns()) {
            NaiveNulls y = allButSix();
            y.learn(unknown, 3);
            due.yes("all of 343, with " + unknown + " learnt", y.alwaysSome());
        }
        due.yes("without unknowns", allCertain().alwaysSome());
    }

    private static void notTheSameAnswer() {
        due.yes("any of 49", allPossible().alwaysSome());
        due.is("none of which is certain", 0, allPossible().certainCount());
        for (int unknown : Numbers.unknowns()) {
            NaiveNulls x = new NaiveNulls();
            x.addRow(1, unknown, unknown);
            x.rule(20, 20);
            x.atom(1, 20, 20);
            due.yes("any of 7", x.alwaysSome());
            due.is("none of which is certain", 0, x.certainCount());
        }
    }

    private static void noAnswerAtAll() {
        NaiveNulls x = new NaiveNulls();
        due.no("new", x.alwaysSome());
        x.addRow(0, 0, 0);
        due.no("a row and no rule", x.alwaysSome());
        x.rule(20, 0);
        due.no("an unsafe rule", x.alwaysSome());
        x.atom(1, 20, 20);
        due.no("an atom over an empty table", x.alwaysSome());
        x.rule(0, 0);
        due.yes("a second rule of constants", x.alwaysSome());
        x.atom(1, 0, 0);
        due.no("with an atom over the empty table too", x.alwaysSome());
        x.addRow(1, 0, 10);
        due.no("with a row that may not fit", x.alwaysSome());
        x.learn(10, 0);
        due.yes("with a row that fits", x.alwaysSome());
        x.dropRow(1);
        due.no("with the row gone", x.alwaysSome());
    }
}
