/** Promises 1 to 4: a new object, addRow, dropRow, learn. */
final class TablesTest {
    private static final int[] VALUES = {0, 1, 2, 3, 10, 11, 12};
    private static final int[] NO_VALUES = {
        Integer.MIN_VALUE, -11, -3, -2, -1, 4, 5, 6, 7, 8, 9, 13, 14, 19, 20, 21, 22, 23, 24, Integer.MAX_VALUE};
    private static final int[] NO_TABLES = {Integer.MIN_VALUE, -2, -1, 2, 3, 10, Integer.MAX_VALUE};

    private static final Due due = new Due();

    public static void main(String[] args) {
        newObject();
        objectsAreApart();
        addRowAnswers();
        addRowRefuses();
        tablesAreApart();
        equalRows();
        dropRowAnswers();
        dropRowTakesTheFirst();
        dropThenAdd();
        learnAnswers();
        learnReachesEverything();
        learnRefuses();
        learnIsNotRemembered();
        due.end();
    }

    /** A rule for each table, whose answers are the rows of the table. */
    private static NaiveNulls reader(int table) {
        NaiveNulls x = new NaiveNulls();
        x.rule(20, 21);
        x.atom(table, 20, 21);
        return x;
    }

    private static void newObject() {
        NaiveNulls x = new NaiveNulls();
        due.is("new: certainCount", 0, x.certainCount());
        due.no("new: alwaysSome", x.alwaysSome());
        for (int a = 0; a <= 6; a++) {
            for (int b = 0; b <= 6; b++) {
                due.no("new: certain", x.certain(a, b));
                due.no("new: possible", x.possible(a, b));
            }
        }
        due.is("new: dropRow(0)", -1, x.dropRow(0));
        due.is("new: dropRow(1)", -1, x.dropRow(1));
        due.is("new: learn(10, 0)", 0, x.learn(10, 0));
        due.is("new: atom", -3, x.atom(0, 0, 0));
        due.is("new: dropRules", 0, x.dropRules());
        for (int table = 0; table <= 1; table++) {
            NaiveNulls empty = reader(table);
            due.no("new: table is empty", empty.possible(0, 0));
            due.no("new: table is empty, alwaysSome", empty.alwaysSome());
        }
    }

    private static void objectsAreApart() {
        NaiveNulls first = reader(0);
        NaiveNulls second = reader(0);
        first.addRow(0, 1, 1);
        due.no("the other object's row", second.possible(1, 1));
        due.is("the other object's rules", 2, second.rule(0, 0));
        due.is("own rules", 2, first.rule(0, 0));
    }

    private static void addRowAnswers() {
        for (int table = 0; table <= 1; table++) {
            for (int v : VALUES) {
                for (int w : VALUES) {
                    NaiveNulls x = new NaiveNulls();
                    String call = "addRow(" + table + ", " + v + ", " + w + ")";
                    for (int n = 1; n <= 5; n++) {
                        due.is(call, n, x.addRow(table, v, w));
                    }
                    due.is(call + " at 5 rows", -2, x.addRow(table, v, w));
                    due.is(call + " at 5 rows, again", -2, x.addRow(table, v, w));
                }
            }
        }
    }

    private static void addRowRefuses() {
        NaiveNulls x = reader(0);
        for (int bad : NO_VALUES) {
            due.is("addRow(0, " + bad + ", 0)", -1, x.addRow(0, bad, 0));
            due.is("addRow(1, 10, " + bad + ")", -1, x.addRow(1, 10, bad));
            due.is("addRow(0, " + bad + ", " + bad + ")", -1, x.addRow(0, bad, bad));
        }
        for (int bad : NO_TABLES) {
            due.is("addRow(" + bad + ", 0, 0)", -1, x.addRow(bad, 0, 0));
        }
        due.is("certainCount after refused rows", 0, x.certainCount());
        due.is("addRow after refused rows", 1, x.addRow(0, 1, 2));
        due.is("addRow after refused rows, the other table", 1, x.addRow(1, 1, 2));
    }

    private static void tablesAreApart() {
        NaiveNulls x = reader(0);
        for (int n = 1; n <= 5; n++) {
            x.addRow(0, 0, 0);
        }
        due.is("table 1 beside a full table 0", 1, x.addRow(1, 3, 3));
        due.no("row of table 1 in table 0", x.possible(3, 3));
        due.is("a full row's refusal leaves the table", -2, x.addRow(0, 2, 2));
        due.no("the refused row", x.possible(2, 2));
        NaiveNulls y = reader(1);
        y.addRow(0, 3, 3);
        y.addRow(1, 1, 2);
        due.no("row of table 0 in table 1", y.possible(3, 3));
        due.yes("row of table 1", y.certain(1, 2));
        due.no("turned row of table 1", y.possible(2, 1));
    }

    private static void equalRows() {
        NaiveNulls x = reader(0);
        due.is("first", 1, x.addRow(0, 1, 2));
        due.is("equal", 2, x.addRow(0, 1, 2));
        due.is("equal rows are one answer", 1, x.certainCount());
        due.is("one dropped", 1, x.dropRow(0));
        due.yes("the equal one stays", x.certain(1, 2));
        due.is("both dropped", 0, x.dropRow(0));
        due.no("both dropped: possible", x.possible(1, 2));
    }

    private static void dropRowAnswers() {
        for (int table = 0; table <= 1; table++) {
            NaiveNulls x = new NaiveNulls();
            for (int n = 1; n <= 5; n++) {
                x.addRow(table, 1, 1);
            }
            for (int bad : NO_TABLES) {
                due.is("dropRow(" + bad + ")", -1, x.dropRow(bad));
            }
            due.is("dropRow of the empty one", -1, x.dropRow(1 - table));
            for (int left = 4; left >= 0; left--) {
                due.is("dropRow", left, x.dropRow(table));
            }
            due.is("dropRow at 0 rows", -1, x.dropRow(table));
            due.is("addRow after it", 1, x.addRow(table, 1, 1));
        }
    }

    private static void dropRowTakesTheFirst() {
        for (int table = 0; table <= 1; table++) {
            NaiveNulls x = reader(table);
            int[] ys = {3, 1, 2, 0, 3};
            int[] xs = {0, 1, 2, 3, 3};
            for (int i = 0; i < 5; i++) {
                x.addRow(table, xs[i], ys[i]);
                x.addRow(1 - table, 0, 0);
            }
            for (int i = 0; i < 5; i++) {
                due.yes("row " + i + " before it is dropped", x.certain(xs[i], ys[i]));
                due.is("dropRow " + i, 4 - i, x.dropRow(table));
                due.no("row " + i + " after it is dropped", x.possible(xs[i], ys[i]));
                due.is("rows left", 4 - i, x.certainCount());
            }
            due.is("the other table is whole", 4, x.dropRow(1 - table));
        }
    }

    private static void dropThenAdd() {
        NaiveNulls x = reader(0);
        for (int i = 0; i < 5; i++) {
            x.addRow(0, 0, 0);
        }
        x.addRow(1, 2, 2);
        x.dropRow(0);
        due.is("add after drop", 5, x.addRow(0, 1, 3));
        due.is("and full again", -2, x.addRow(0, 1, 1));
        due.yes("the new row is there", x.certain(1, 3));
        for (int i = 0; i < 4; i++) {
            x.dropRow(0);
        }
        due.yes("the new row is the last one", x.certain(1, 3));
        due.is("nothing else is left", 1, x.certainCount());
        due.is("table 1 was left alone", 2, x.addRow(1, 2, 2));
    }

    private static void learnAnswers() {
        NaiveNulls x = new NaiveNulls();
        x.addRow(0, 10, 10);
        x.addRow(0, 11, 10);
        x.addRow(1, 12, 11);
        x.addRow(1, 10, 0);
        due.is("learn(10, 3)", 4, x.learn(10, 3));
        due.is("learn(10, 3) again", 0, x.learn(10, 3));
        due.is("learn(11, 0)", 2, x.learn(11, 0));
        due.is("learn(12, 1)", 1, x.learn(12, 1));
        due.is("learn(12, 2) with none left", 0, x.learn(12, 2));
        NaiveNulls full = new NaiveNulls();
        for (int i = 0; i < 5; i++) {
            full.addRow(0, 12, 12);
            full.addRow(1, 12, 12);
        }
        due.is("learn in full tables", 20, full.learn(12, 0));
        NaiveNulls dropped = new NaiveNulls();
        dropped.addRow(0, 0, 0);
        dropped.addRow(0, 11, 11);
        dropped.dropRow(0);
        dropped.dropRow(0);
        due.is("learn after the row was dropped", 0, dropped.learn(11, 1));
    }

    private static void learnReachesEverything() {
        for (int unknown = 10; unknown <= 12; unknown++) {
            for (int constant = 0; constant <= 3; constant++) {
                NaiveNulls x = reader(0);
                x.rule(20, 21);
                x.atom(1, 20, 21);
                x.addRow(0, unknown, 1);
                x.addRow(1, 2, unknown);
                due.is("before learn", 0, x.certainCount());
                due.is("learn", 2, x.learn(unknown, constant));
                due.yes("x in table 0", x.certain(constant, 1));
                due.yes("y in table 1", x.certain(2, constant));
                due.no("no other constant", x.possible(4, 1));
                due.no("no other constant", x.possible(2, 5));
            }
        }
        NaiveNulls y = reader(0);
        y.addRow(0, 10, 11);
        y.learn(10, 2);
        due.yes("the other unknown stays open", y.possible(2, 6));
        due.no("and is not certain", y.certain(2, 2));
    }

    private static void learnRefuses() {
        NaiveNulls x = reader(0);
        x.addRow(0, 10, 11);
        x.addRow(0, 3, 12);
        for (int bad : NO_VALUES) {
            due.is("learn(10, " + bad + ")", -1, x.learn(10, bad));
            due.is("learn(" + bad + ", 0)", -1, x.learn(bad, 0));
        }
        for (int v : VALUES) {
            if (v <= 3) {
                due.is("learn(" + v + ", 0)", -1, x.learn(v, 0));
            } else {
                due.is("learn(10, " + v + ")", -1, x.learn(10, v));
            }
        }
        due.yes("nothing was learnt", x.possible(6, 5));
        due.is("places are all there: 10", 1, x.learn(10, 0));
        due.is("places are all there: 11", 1, x.learn(11, 0));
        due.is("places are all there: 12", 1, x.learn(12, 0));
    }

    private static void learnIsNotRemembered() {
        NaiveNulls x = reader(0);
        x.addRow(0, 10, 0);
        x.learn(10, 1);
        x.addRow(0, 10, 2);
        due.no("a later row's unknown is unknown", x.certain(1, 2));
        due.yes("and may be anything", x.possible(6, 2));
        due.is("and can be learnt anew", 1, x.learn(10, 3));
        due.yes("as another constant", x.certain(3, 2));
        due.yes("the first stays", x.certain(1, 0));
    }
}
