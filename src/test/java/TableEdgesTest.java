import java.util.function.Consumer;

/** Each sentence on the tables that names an edge: the terms of a row, and promises 1 to 4. */
final class TableEdgesTest {
    private static final Due due = new Due();

    public static void main(String[] args) {
        due.sentence("Terms", "There are two tables, 0 and 1", TableEdgesTest::twoTables);
        due.sentence("Terms", "each a list of up to 5 rows", TableEdgesTest::upToFiveRows);
        due.sentence("Terms", "the constants in rows are 0 to 3 only", TableEdgesTest::constantsInRows);
        due.sentence("Terms", "The same unknown may stand in several places", TableEdgesTest::sameUnknown);
        due.sentence("Promise 1", "Empty tables", TableEdgesTest::newTables);
        due.sentence("Promise 1", "no rules", TableEdgesTest::newRules);
        due.sentence("Promise 2", "Adds a row at the end of a table.", TableEdgesTest::atTheEnd);
        due.sentence("Promise 2", "table outside 0..1 [...]: BAD", TableEdgesTest::addRowWrongTable);
        due.sentence("Promise 2", "x [...] neither 0 to 3 nor 10 to 12: BAD", TableEdgesTest::addRowWrongX);
        due.sentence("Promise 2", "or y neither 0 to 3 nor 10 to 12: BAD", TableEdgesTest::addRowWrongY);
        due.sentence("Promise 2, what is taken", "x [...] 0 to 3 [...] 10 to 12", TableEdgesTest::addRowEdgesOfX);
        due.sentence("Promise 2, what is taken", "y [...] 0 to 3 [...] 10 to 12", TableEdgesTest::addRowEdgesOfY);
        due.sentence("Promise 2", "5 rows are there: FULL", TableEdgesTest::addRowFull);
        due.sentence("Promise 2", "Else answers the table's number of rows.", TableEdgesTest::addRowNumber);
        due.sentence("Promise 2", "(Equal rows may be there more than once.)", TableEdgesTest::equalRows);
        due.sentence("Promise 3", "Takes the first row of a table away", TableEdgesTest::firstRow);
        due.sentence("Promise 3", "answers the number of rows left", TableEdgesTest::rowsLeft);
        due.sentence("Promise 3", "table outside 0..1 [...]: BAD", TableEdgesTest::dropRowWrongTable);
        due.sentence("Promise 3", "or the table is empty: BAD", TableEdgesTest::dropRowEmpty);
        due.sentence("Promise 4", "Puts a constant from 0 to 3 in place of an unknown", TableEdgesTest::learnEdges);
        due.sentence("Promise 4", "everywhere in both tables", TableEdgesTest::learnEverywhere);
        due.sentence("Promise 4", "unknown outside 10..12 [...]: BAD", TableEdgesTest::learnWrongUnknown);
        due.sentence("Promise 4", "or constant outside 0..3: BAD", TableEdgesTest::learnWrongConstant);
        due.sentence("Promise 4", "Else answers the number of places that had the unknown.",
                TableEdgesTest::learnPlaces);
        due.end();
    }

    /** An object whose answers are the rows of one table. */
    private static NaiveNulls reader(int table) {
        NaiveNulls x = new NaiveNulls();
        x.rule(20, 21);
        x.atom(table, 20, 21);
        return x;
    }

    /** Both tables with some rows, all three unknowns, and a rule over each table. */
    private static void someOfAll(NaiveNulls x) {
        x.addRow(0, 0, 10);
        x.addRow(0, 11, 3);
        x.addRow(1, 12, 10);
        x.addRow(1, 3, 0);
        x.addRow(1, 1, 1);
        x.rule(20, 21);
        x.atom(0, 20, 21);
        x.rule(3, 23);
        x.atom(1, 22, 23);
        x.atom(1, 23, 22);
    }

    /** The same with both tables full. */
    private static void fullOfAll(NaiveNulls x) {
        someOfAll(x);
        for (int i = 0; i < 3; i++) {
            x.addRow(0, i, 12);
        }
        x.addRow(1, 11, 2);
        x.addRow(1, 2, 12);
    }

    private static void leavesAll(String calls, Consumer<NaiveNulls> start, Consumer<NaiveNulls> refused) {
        due.same(calls, Picture.of(start), Picture.of(start.andThen(refused)));
    }

    private static void twoTables() {
        NaiveNulls x = reader(0);
        due.is("addRow(0, 1, 2)", 1, x.addRow(0, 1, 2));
        due.is("addRow(1, 2, 1)", 1, x.addRow(1, 2, 1));
        due.is("addRow(2, 0, 0)", -1, x.addRow(2, 0, 0));
        due.is("addRow(-1, 0, 0)", -1, x.addRow(-1, 0, 0));
        due.yes("the row of table 0 is in table 0", x.certain(1, 2));
        due.no("the row of table 1 is not", x.possible(2, 1));
    }

    private static void upToFiveRows() {
        int[] xs = {0, 1, 2, 3, 0};
        for (int table : Numbers.tables()) {
            NaiveNulls x = reader(table);
            for (int i = 0; i < 5; i++) {
                due.is("row " + i + " of table 0", i + 1, x.addRow(0, xs[i], i / 2));
                due.is("row " + i + " of table 1", i + 1, x.addRow(1, i / 2, xs[i]));
            }
            for (int i = 0; i < 5; i++) {
                boolean there = table == 0 ? x.certain(xs[i], i / 2) : x.certain(i / 2, xs[i]);
                due.yes("row " + i + " of table " + table + " is there", there);
            }
            due.is("five answers", 5, x.certainCount());
        }
    }

    private static void constantsInRows() {
        NaiveNulls x = reader(0);
        for (int constant = 4; constant <= 6; constant++) {
            due.is("addRow(0, " + constant + ", 0)", -1, x.addRow(0, constant, 0));
            due.is("addRow(0, 0, " + constant + ")", -1, x.addRow(0, 0, constant));
            due.is("addRow(1, " + constant + ", " + constant + ")", -1, x.addRow(1, constant, constant));
        }
        due.is("addRow(0, 3, 3)", 1, x.addRow(0, 3, 3));
        due.is("addRow(0, 0, 0)", 2, x.addRow(0, 0, 0));
        due.is("the two rows alone", 2, x.certainCount());
    }

    private static void sameUnknown() {
        for (int unknown : Numbers.unknowns()) {
            NaiveNulls x = reader(0);
            x.atom(1, 20, 20);
            for (int n = 1; n <= 5; n++) {
                due.is("addRow(0) of the same twice", n, x.addRow(0, unknown, unknown));
                due.is("addRow(1) of the same twice", n, x.addRow(1, unknown, unknown));
            }
            due.yes("it is always itself", x.alwaysSome());
            due.no("and never two constants at once", x.possible(0, 6));
            due.yes("0 in all places", x.possible(0, 0));
            due.yes("6 in all places", x.possible(6, 6));
        }
    }

    private static void newTables() {
        for (int table : Numbers.tables()) {
            due.is("dropRow(" + table + ")", -1, new NaiveNulls().dropRow(table));
            due.is("addRow(" + table + ", 0, 0)", 1, new NaiveNulls().addRow(table, 0, 0));
            NaiveNulls x = reader(table);
            due.no("alwaysSome over table " + table, x.alwaysSome());
            for (int n = 0; n < 49; n++) {
                due.no("possible over table " + table, x.possible(n / 7, n % 7));
            }
        }
        for (int unknown : Numbers.unknowns()) {
            due.is("learn(" + unknown + ", 0)", 0, new NaiveNulls().learn(unknown, 0));
        }
    }

    private static void newRules() {
        due.is("dropRules", 0, new NaiveNulls().dropRules());
        due.is("atom", -3, new NaiveNulls().atom(0, 0, 0));
        due.is("rule", 1, new NaiveNulls().rule(0, 0));
        due.is("certainCount", 0, new NaiveNulls().certainCount());
        due.no("alwaysSome", new NaiveNulls().alwaysSome());
        NaiveNulls x = new NaiveNulls();
        for (int n = 0; n < 49; n++) {
            due.no("certain", x.certain(n / 7, n % 7));
            due.no("possible", x.possible(n / 7, n % 7));
        }
    }

    private static void atTheEnd() {
        for (int table : Numbers.tables()) {
            NaiveNulls x = reader(table);
            for (int n = 0; n < 5; n++) {
                x.addRow(table, n % 4, n / 4);
            }
            // Often enough that a list kept as a ring goes round more than once.
            for (int n = 5; n < 21; n++) {
                int old = (n - 5) % 16;
                due.yes("the oldest row before dropRow", x.certain(old % 4, old / 4));
                due.is("dropRow", 4, x.dropRow(table));
                due.no("the oldest row after dropRow", x.possible(old % 4, old / 4));
                due.is("addRow", 5, x.addRow(table, n % 4, n % 16 / 4));
                due.is("answers", 5, x.certainCount());
            }
            for (int left = 4; left >= 1; left--) {
                x.dropRow(table);
                due.yes("the newest row is the last to go", x.certain(0, 1));
                due.is("answers", left, x.certainCount());
            }
        }
    }

    private static void addRowWrongTable() {
        int[] wrong = Numbers.outside(Numbers.tables());
        Consumer<NaiveNulls> calls = x -> {
            for (int table : wrong) {
                due.is("addRow(" + table + ", 2, 2)", -1, x.addRow(table, 2, 2));
            }
        };
        calls.accept(new NaiveNulls());
        leavesAll("addRow with a wrong table", TableEdgesTest::someOfAll, calls);
        leavesAll("addRow with a wrong table, full", TableEdgesTest::fullOfAll, calls);
    }

    private static void addRowWrongX() {
        int[] wrong = Numbers.outside(Numbers.rowValues());
        for (int table : Numbers.tables()) {
            Consumer<NaiveNulls> calls = x -> {
                for (int value : wrong) {
                    due.is("addRow(" + table + ", " + value + ", 2)", -1, x.addRow(table, value, 2));
                }
            };
            calls.accept(new NaiveNulls());
            leavesAll("addRow with a wrong x", TableEdgesTest::someOfAll, calls);
        }
    }

    private static void addRowWrongY() {
        int[] wrong = Numbers.outside(Numbers.rowValues());
        for (int table : Numbers.tables()) {
            Consumer<NaiveNulls> calls = x -> {
                for (int value : wrong) {
                    due.is("addRow(" + table + ", 2, " + value + ")", -1, x.addRow(table, 2, value));
                }
            };
            calls.accept(new NaiveNulls());
            leavesAll("addRow with a wrong y", TableEdgesTest::someOfAll, calls);
        }
    }

    private static void addRowEdgesOfX() {
        for (int table : Numbers.tables()) {
            for (int value : new int[] {0, 3, 10, 12}) {
                NaiveNulls x = reader(table);
                due.is("addRow(" + table + ", " + value + ", 1)", 1, x.addRow(table, value, 1));
                for (int a = 0; a <= 6; a++) {
                    boolean there = value >= 10 || a == value;
                    due.is("possible(" + a + ", 1)", there ? 1 : 0, x.possible(a, 1) ? 1 : 0);
                }
            }
        }
    }

    private static void addRowEdgesOfY() {
        for (int table : Numbers.tables()) {
            for (int value : new int[] {0, 3, 10, 12}) {
                NaiveNulls x = reader(table);
                due.is("addRow(" + table + ", 1, " + value + ")", 1, x.addRow(table, 1, value));
                for (int b = 0; b <= 6; b++) {
                    boolean there = value >= 10 || b == value;
                    due.is("possible(1, " + b + ")", there ? 1 : 0, x.possible(1, b) ? 1 : 0);
                }
            }
        }
    }

    private static void addRowFull() {
        for (int table : Numbers.tables()) {
            NaiveNulls x = reader(table);
            for (int n = 1; n <= 5; n++) {
                due.is("row " + n, n, x.addRow(table, 0, 0));
            }
            for (int i = 0; i < 5; i++) {
                due.is("a sixth row", -2, x.addRow(table, 3, 10));
            }
            due.no("the refused row is not there", x.possible(3, 0));
            due.is("the other table has room", 1, x.addRow(1 - table, 3, 3));
            due.is("dropRow after FULL", 4, x.dropRow(table));
            due.is("there is room again, for one", 5, x.addRow(table, 3, 10));
            due.is("and no more", -2, x.addRow(table, 3, 10));
            due.yes("the row that found room", x.possible(3, 6));
        }
        leavesAll("addRow to full tables", TableEdgesTest::fullOfAll, x -> {
            due.is("addRow(0, 2, 2)", -2, x.addRow(0, 2, 2));
            due.is("addRow(1, 12, 11)", -2, x.addRow(1, 12, 11));
        });
    }

    private static void addRowNumber() {
        NaiveNulls x = new NaiveNulls();
        due.is("first row of table 0", 1, x.addRow(0, 1, 1));
        due.is("second row of table 0", 2, x.addRow(0, 1, 1));
        due.is("first row of table 1", 1, x.addRow(1, 1, 1));
        due.is("third row of table 0", 3, x.addRow(0, 10, 10));
        due.is("second row of table 1", 2, x.addRow(1, 12, 0));
        x.dropRow(0);
        x.dropRow(0);
        due.is("row of table 0 after two dropRow", 2, x.addRow(0, 0, 0));
        due.is("third row of table 1", 3, x.addRow(1, 0, 0));
        x.learn(10, 0);
        due.is("row of table 0 after learn", 3, x.addRow(0, 0, 0));
        x.dropRules();
        due.is("row of table 0 after dropRules", 4, x.addRow(0, 0, 0));
        x.addRow(0, 4, 0);
        due.is("row of table 0 after BAD", 5, x.addRow(0, 0, 0));
    }

    private static void equalRows() {
        int[][] rows = {{0, 0}, {3, 1}, {10, 10}, {2, 12}};
        for (int table : Numbers.tables()) {
            for (int[] row : rows) {
                NaiveNulls x = reader(table);
                for (int n = 1; n <= 5; n++) {
                    due.is("equal row " + n, n, x.addRow(table, row[0], row[1]));
                }
                for (int left = 4; left >= 0; left--) {
                    due.yes("an equal row is there", x.alwaysSome());
                    due.is("dropRow takes one of them", left, x.dropRow(table));
                }
                due.no("no equal row is there", x.alwaysSome());
            }
        }
    }

    private static void firstRow() {
        int[][] rows = {{2, 10}, {0, 0}, {10, 1}, {3, 3}, {0, 2}};
        for (int table : Numbers.tables()) {
            for (int dropped = 0; dropped <= 5; dropped++) {
                int gone = dropped;
                Consumer<NaiveNulls> all = x -> {
                    fill(x, table, rows, 0);
                    x.addRow(1 - table, 11, 12);
                    for (int i = 0; i < gone; i++) {
                        due.is("dropRow(" + table + ")", 4 - i, x.dropRow(table));
                    }
                };
                Consumer<NaiveNulls> rest = x -> {
                    fill(x, table, rows, gone);
                    x.addRow(1 - table, 11, 12);
                };
                due.same("dropRow, " + dropped + " times", Picture.of(rest), Picture.of(all));
            }
        }
    }

    private static void fill(NaiveNulls x, int table, int[][] rows, int from) {
        for (int i = from; i < rows.length; i++) {
            x.addRow(table, rows[i][0], rows[i][1]);
        }
    }

    private static void rowsLeft() {
        for (int table : Numbers.tables()) {
            for (int rows = 1; rows <= 5; rows++) {
                NaiveNulls x = new NaiveNulls();
                for (int i = 0; i < rows; i++) {
                    x.addRow(table, 1, 10);
                }
                x.addRow(1 - table, 1, 1);
                for (int left = rows - 1; left >= 0; left--) {
                    due.is("dropRow(" + table + ")", left, x.dropRow(table));
                }
                due.is("dropRow of the other table's only row", 0, x.dropRow(1 - table));
            }
        }
    }

    private static void dropRowWrongTable() {
        int[] wrong = Numbers.outside(Numbers.tables());
        Consumer<NaiveNulls> calls = x -> {
            for (int table : wrong) {
                due.is("dropRow(" + table + ")", -1, x.dropRow(table));
            }
        };
        calls.accept(new NaiveNulls());
        leavesAll("dropRow with a wrong table", TableEdgesTest::someOfAll, calls);
        leavesAll("dropRow with a wrong table, full", TableEdgesTest::fullOfAll, calls);
    }

    private static void dropRowEmpty() {
        for (int table : Numbers.tables()) {
            Consumer<NaiveNulls> otherFull = x -> {
                for (int i = 0; i < 5; i++) {
                    x.addRow(1 - table, i % 4, 11);
                }
                x.rule(20, 21);
                x.atom(1 - table, 20, 21);
            };
            leavesAll("dropRow of an empty table", otherFull, x -> {
                for (int i = 0; i < 6; i++) {
                    due.is("dropRow(" + table + ") beside a full one", -1, x.dropRow(table));
                }
            });
            leavesAll("dropRow of an emptied table", otherFull, x -> {
                x.addRow(table, 2, 2);
                due.is("dropRow(" + table + ") of its only row", 0, x.dropRow(table));
                due.is("dropRow(" + table + ") after it", -1, x.dropRow(table));
                due.is("dropRow(" + table + ") once more", -1, x.dropRow(table));
            });
            NaiveNulls x = new NaiveNulls();
            due.is("dropRow(" + table + ") of a new object", -1, x.dropRow(table));
            due.is("addRow after it", 1, x.addRow(table, 1, 1));
        }
    }

    private static void learnEdges() {
        for (int unknown : Numbers.unknowns()) {
            for (int constant : Numbers.written()) {
                NaiveNulls x = reader(0);
                x.addRow(0, unknown, unknown);
                due.is("learn(" + unknown + ", " + constant + ")", 2, x.learn(unknown, constant));
                for (int n = 0; n < 49; n++) {
                    boolean there = n / 7 == constant && n % 7 == constant;
                    due.is("possible(" + n / 7 + ", " + n % 7 + ")", there ? 1 : 0, x.possible(n / 7, n % 7) ? 1 : 0);
                }
                due.yes("certain", x.certain(constant, constant));
            }
        }
    }

    private static void learnEverywhere() {
        for (int unknown : Numbers.unknowns()) {
            for (int constant : new int[] {0, 3}) {
                Consumer<NaiveNulls> learnt = x -> {
                    fullOfAll(x);
                    x.learn(unknown, constant);
                };
                Consumer<NaiveNulls> written = x -> {
                    int[][] zero = {{0, 10}, {11, 3}, {0, 12}, {1, 12}, {2, 12}};
                    int[][] one = {{12, 10}, {3, 0}, {1, 1}, {11, 2}, {2, 12}};
                    fill(x, 0, with(zero, unknown, constant), 0);
                    fill(x, 1, with(one, unknown, constant), 0);
                    x.rule(20, 21);
                    x.atom(0, 20, 21);
                    x.rule(3, 23);
                    x.atom(1, 22, 23);
                    x.atom(1, 23, 22);
                };
                due.same("learn(" + unknown + ", " + constant + ")", Picture.of(written), Picture.of(learnt));
            }
        }
    }

    private static int[][] with(int[][] rows, int unknown, int constant) {
        for (int[] row : rows) {
            row[0] = row[0] == unknown ? constant : row[0];
            row[1] = row[1] == unknown ? constant : row[1];
        }
        return rows;
    }

    private static void learnWrongUnknown() {
        int[] wrong = Numbers.outside(Numbers.unknowns());
        Consumer<NaiveNulls> calls = x -> {
            for (int unknown : wrong) {
                due.is("learn(" + unknown + ", 2)", -1, x.learn(unknown, 2));
            }
        };
        calls.accept(new NaiveNulls());
        leavesAll("learn of a wrong unknown", TableEdgesTest::fullOfAll, calls);
    }

    private static void learnWrongConstant() {
        int[] wrong = Numbers.outside(Numbers.written());
        for (int unknown : Numbers.unknowns()) {
            Consumer<NaiveNulls> calls = x -> {
                for (int constant : wrong) {
                    due.is("learn(" + unknown + ", " + constant + ")", -1, x.learn(unknown, constant));
                }
            };
            calls.accept(new NaiveNulls());
            leavesAll("learn of a wrong constant", TableEdgesTest::fullOfAll, calls);
        }
        due.is("learn(9, 4), both wrong", -1, new NaiveNulls().learn(9, 4));
        due.is("learn(13, -1), both wrong", -1, new NaiveNulls().learn(13, -1));
    }

    private static void learnPlaces() {
        for (int unknown : Numbers.unknowns()) {
            int other = unknown == 12 ? 10 : unknown + 1;
            due.is("empty tables", 0, new NaiveNulls().learn(unknown, 0));
            NaiveNulls x = new NaiveNulls();
            x.addRow(0, other, 3);
            due.is("another unknown alone", 0, x.learn(unknown, 0));
            x.addRow(1, 0, unknown);
            due.is("one place", 1, x.learn(unknown, 0));
            due.is("none after it", 0, x.learn(unknown, 0));
            x.addRow(0, unknown, unknown);
            due.is("two places in one row", 2, x.learn(unknown, 3));
            due.is("the other unknown's place", 1, x.learn(other, 3));
            for (int i = 0; i < 5; i++) {
                x.dropRow(0);
                x.dropRow(1);
            }
            for (int i = 0; i < 5; i++) {
                x.addRow(0, unknown, unknown);
                x.addRow(1, unknown, unknown);
            }
            x.addRow(0, unknown, unknown);
            due.is("every place of full tables", 20, x.learn(unknown, 1));
            due.is("none left of them", 0, x.learn(unknown, 2));
            x.dropRow(0);
            x.addRow(0, unknown, 0);
            x.dropRow(1);
            x.addRow(1, 0, unknown);
            for (int i = 0; i < 5; i++) {
                x.dropRow(0);
            }
            due.is("rows that were dropped don't count", 1, x.learn(unknown, 0));
        }
    }
}
