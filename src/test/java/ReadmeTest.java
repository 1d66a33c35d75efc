/** The example of README.md: each call answers what is written beside it. */
final class ReadmeTest {
    public static void main(String[] args) {
        Due due = new Due();
        NaiveNulls x = new NaiveNulls();
        due.is("addRow(0, 1, 10)", 1, x.addRow(0, 1, 10));
        due.is("addRow(1, 10, 2)", 1, x.addRow(1, 10, 2));
        due.is("addRow(1, 11, 3)", 2, x.addRow(1, 11, 3));
        due.is("rule(20, 22)", 1, x.rule(20, 22));
        due.is("atom(0, 20, 21)", 1, x.atom(0, 20, 21));
        due.is("atom(1, 21, 22)", 2, x.atom(1, 21, 22));
        due.yes("certain(1, 2)", x.certain(1, 2));
        due.no("certain(1, 3)", x.certain(1, 3));
        due.yes("possible(1, 3)", x.possible(1, 3));
        due.is("certainCount()", 1, x.certainCount());
        due.yes("alwaysSome()", x.alwaysSome());
        due.is("learn(10, 3)", 2, x.learn(10, 3));
        due.is("learn(11, 3)", 1, x.learn(11, 3));
        due.yes("certain(1, 3)", x.certain(1, 3));
        due.is("certainCount()", 2, x.certainCount());
        due.end();
    }
}
