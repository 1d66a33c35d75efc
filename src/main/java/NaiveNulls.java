/** Certain and possible answers over two tables with marked unknowns. */
public final class NaiveNulls {
    public static final int BAD = -1;
    public static final int FULL = -2;
    public static final int NONE = -3;

    private static final int TABLES = 2;
    private static final int MAX_ROWS = 5;
    private static final int ROW_SLOTS = 10;
    private static final int MAX_RULES = 2;
    private static final int MAX_ATOMS = 3;
    private static final int ATOM_SLOTS = 6;

    private static final int CONSTANTS = 7;
    private static final int COUPLES = 49;
    private static final int LAST_WRITTEN_CONSTANT = 3;
    private static final int FIRST_UNKNOWN = 10;
    private static final int LAST_UNKNOWN = 12;
    private static final int UNKNOWNS = 3;
    private static final int COMPLETIONS = 343;
    private static final int FIRST_VARIABLE = 20;
    private static final int LAST_VARIABLE = 23;
    private static final int VARIABLES = 4;
    private static final int UNBOUND = -1;

    // Row i of a table is at slot table * MAX_ROWS + i.
    private final int[] rowCount = new int[TABLES];
    private final int[] rowX = new int[ROW_SLOTS];
    private final int[] rowY = new int[ROW_SLOTS];

    // Atom i of a rule is at slot rule * MAX_ATOMS + i.
    private int ruleCount = 0;
    private final int[] headX = new int[MAX_RULES];
    private final int[] headY = new int[MAX_RULES];
    private final int[] atomCount = new int[MAX_RULES];
    private final int[] atomTable = new int[ATOM_SLOTS];
    private final int[] atomX = new int[ATOM_SLOTS];
    private final int[] atomY = new int[ATOM_SLOTS];

    // Scratch of one query: nothing in these outlives the call that fills them.
    private final int[] given = new int[UNKNOWNS];
    private final int[] fullX = new int[ROW_SLOTS];
    private final int[] fullY = new int[ROW_SLOTS];
    private final int[] bound = new int[VARIABLES];

    public NaiveNulls() {
    }

    public int addRow(int table, int x, int y) {
        if (!isTable(table) || !isRowValue(x) || !isRowValue(y)) {
            return BAD;
        }
        int rows = rowCount[table];
        if (rows >= MAX_ROWS) {
            return FULL;
        }
        int slot = table * MAX_ROWS + rows;
        rowX[slot] = x;
        rowY[slot] = y;
        rowCount[table] = rows + 1;
        return rows + 1;
    }

    public int dropRow(int table) {
        if (!isTable(table) || rowCount[table] == 0) {
            return BAD;
        }
        int left = rowCount[table] - 1;
        int first = table * MAX_ROWS;
        for (int i = 0; i < left; i++) {
            rowX[first + i] = rowX[first + i + 1];
            rowY[first + i] = rowY[first + i + 1];
        }
        rowCount[table] = left;
        return left;
    }

    public int learn(int unknown, int constant) {
        if (!isUnknown(unknown) || !isWrittenConstant(constant)) {
            return BAD;
        }
        int places = 0;
        for (int table = 0; table < TABLES; table++) {
            for (int i = 0; i < rowCount[table]; i++) {
                int slot = table * MAX_ROWS + i;
                if (rowX[slot] == unknown) {
                    rowX[slot] = constant;
                    places++;
                }
                if (rowY[slot] == unknown) {
                    rowY[slot] = constant;
                    places++;
                }
            }
        }
        return places;
    }

    public int rule(int x, int y) {
        if (!isTerm(x) || !isTerm(y)) {
            return BAD;
        }
        if (ruleCount >= MAX_RULES) {
            return FULL;
        }
        headX[ruleCount] = x;
        headY[ruleCount] = y;
        atomCount[ruleCount] = 0;
        ruleCount++;
        return ruleCount;
    }

    public int atom(int table, int x, int y) {
        if (!isTable(table) || !isTerm(x) || !isTerm(y)) {
            return BAD;
        }
        if (ruleCount == 0) {
            return NONE;
        }
        int latest = ruleCount - 1;
        int atoms = atomCount[latest];
        if (atoms >= MAX_ATOMS) {
            return FULL;
        }
        int slot = latest * MAX_ATOMS + atoms;
        atomTable[slot] = table;
        atomX[slot] = x;
        atomY[slot] = y;
        atomCount[latest] = atoms + 1;
        return atoms + 1;
    }

    public int dropRules() {
        int dropped = ruleCount;
        ruleCount = 0;
        return dropped;
    }

    public boolean certain(int a, int b) {
        if (!isConstant(a) || !isConstant(b)) {
            return false;
        }
        return (certainAnswers() & coupleBit(a, b)) != 0L;
    }

    public boolean possible(int a, int b) {
        if (!isConstant(a) || !isConstant(b)) {
            return false;
        }
        return (possibleAnswers() & coupleBit(a, b)) != 0L;
    }

    public int certainCount() {
        long answers = certainAnswers();
        int count = 0;
        for (int couple = 0; couple < COUPLES; couple++) {
            if (((answers >>> couple) & 1L) != 0L) {
                count++;
            }
        }
        return count;
    }

    public boolean alwaysSome() {
        for (int completion = 0; completion < COMPLETIONS; completion++) {
            if (answersIn(completion) == 0L) {
                return false;
            }
        }
        return true;
    }

    private static boolean isTable(int table) {
        return table >= 0 && table < TABLES;
    }

    private static boolean isConstant(int value) {
        return value >= 0 && value < CONSTANTS;
    }

    private static boolean isWrittenConstant(int value) {
        return value >= 0 && value <= LAST_WRITTEN_CONSTANT;
    }

    private static boolean isUnknown(int value) {
        return value >= FIRST_UNKNOWN && value <= LAST_UNKNOWN;
    }

    private static boolean isVariable(int term) {
        return term >= FIRST_VARIABLE && term <= LAST_VARIABLE;
    }

    private static boolean isRowValue(int value) {
        return isWrittenConstant(value) || isUnknown(value);
    }

    private static boolean isTerm(int term) {
        return isWrittenConstant(term) || isVariable(term);
    }

    // A set of couples is a long: all 49 fit, so sets over completions meet and join in one step.
    private static long coupleBit(int a, int b) {
        return 1L << (a * CONSTANTS + b);
    }

    private long certainAnswers() {
        long answers = (1L << COUPLES) - 1L;
        for (int completion = 0; completion < COMPLETIONS; completion++) {
            answers &= answersIn(completion);
        }
        return answers;
    }

    private long possibleAnswers() {
        long answers = 0L;
        for (int completion = 0; completion < COMPLETIONS; completion++) {
            answers |= answersIn(completion);
        }
        return answers;
    }

    // Trying rows for atoms finds the same answers as trying constants for variables, with
    // fewer tries: a variable that is in no atom of a safe rule is not in its head either.
    private long answersIn(int completion) {
        completeTables(completion);
        long answers = 0L;
        for (int rule = 0; rule < ruleCount; rule++) {
            int choices = isSafe(rule) ? rowChoices(rule) : 0;
            for (int choice = 0; choice < choices; choice++) {
                if (fits(rule, choice)) {
                    answers |= headBit(rule);
                }
            }
        }
        return answers;
    }

    // The number of a completion is read as three digits, one constant for each unknown.
    private void completeTables(int completion) {
        int rest = completion;
        for (int i = 0; i < UNKNOWNS; i++) {
            given[i] = rest % CONSTANTS;
            rest = rest / CONSTANTS;
        }
        for (int slot = 0; slot < ROW_SLOTS; slot++) {
            fullX[slot] = completed(rowX[slot]);
            fullY[slot] = completed(rowY[slot]);
        }
    }

    // Here and in rowsOf, agrees and chosen a kept number is looked at again before it is an index,
    // without isUnknown, isTable or isVariable, so that calls stay five deep.
    private int completed(int value) {
        int unknown = value - FIRST_UNKNOWN;
        return unknown >= 0 && unknown < UNKNOWNS ? given[unknown] : value;
    }

    private boolean isSafe(int rule) {
        return isSafeTerm(rule, headX[rule]) && isSafeTerm(rule, headY[rule]);
    }

    private boolean isSafeTerm(int rule, int term) {
        if (term < FIRST_VARIABLE) {
            return true;
        }
        for (int i = 0; i < atomCount[rule]; i++) {
            int slot = rule * MAX_ATOMS + i;
            if (atomX[slot] == term || atomY[slot] == term) {
                return true;
            }
        }
        return false;
    }

    // An empty body leaves one choice, the empty one, so that a head of constants is an answer.
    private int rowChoices(int rule) {
        int choices = 1;
        for (int i = 0; i < atomCount[rule]; i++) {
            choices *= rowsOf(atomTable[rule * MAX_ATOMS + i]);
        }
        return choices;
    }

    private int rowsOf(int table) {
        return table >= 0 && table < TABLES ? rowCount[table] : 0;
    }

    // The number of a choice is read as digits, one row for each atom.
    private boolean fits(int rule, int choice) {
        for (int i = 0; i < VARIABLES; i++) {
            bound[i] = UNBOUND;
        }
        int rest = choice;
        for (int i = 0; i < atomCount[rule]; i++) {
            int slot = rule * MAX_ATOMS + i;
            int table = atomTable[slot];
            int rows = rowsOf(table);
            if (rows == 0) {
                return false;
            }
            int row = table * MAX_ROWS + rest % rows;
            rest = rest / rows;
            if (!agrees(atomX[slot], fullX[row]) || !agrees(atomY[slot], fullY[row])) {
                return false;
            }
        }
        return true;
    }

    private boolean agrees(int term, int constant) {
        int variable = term - FIRST_VARIABLE;
        if (variable < 0 || variable >= VARIABLES) {
            return term == constant;
        }
        if (bound[variable] == UNBOUND) {
            bound[variable] = constant;
        }
        return bound[variable] == constant;
    }

    private long headBit(int rule) {
        int a = chosen(headX[rule]);
        int b = chosen(headY[rule]);
        return coupleBit(a, b);
    }

    private int chosen(int term) {
        int variable = term - FIRST_VARIABLE;
        return variable >= 0 && variable < VARIABLES ? bound[variable] : term;
    }
}
