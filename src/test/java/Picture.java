import java.util.function.Consumer;

/**
 * What can be seen of an object from outside after a run of calls, as a text. Looking changes the
 * object, so each look is at a new object on which the run is made again; that also keeps
 * each of them under 512 calls as long as the run itself is under 300.
 */
final class Picture {
    private Picture() {
    }

    static String of(Consumer<NaiveNulls> run) {
        return answers(run) + rules(run) + table(run, 0) + table(run, 1);
    }

    /** The answers of the query as it stands. */
    private static String answers(Consumer<NaiveNulls> run) {
        NaiveNulls x = after(run);
        StringBuilder text = new StringBuilder();
        text.append("certainCount ").append(x.certainCount()).append(", alwaysSome ").append(x.alwaysSome());
        text.append(", certain");
        for (int n = 0; n < 49; n++) {
            text.append(x.certain(n / 7, n % 7) ? couple(n) : "");
        }
        return text.append(", possible").append(possible(x)).append(System.lineSeparator()).toString();
    }

    /** How many rules there are, and how many atoms find room in the latest. */
    private static String rules(Consumer<NaiveNulls> run) {
        NaiveNulls x = after(run);
        int room = 0;
        while (room < 4 && x.atom(0, 0, 0) > 0) {
            room++;
        }
        return "room for " + room + " atoms, " + x.dropRules() + " rules" + System.lineSeparator();
    }

    /** The rows of a table, told by what is left of it after each dropRow and each learn. */
    private static String table(Consumer<NaiveNulls> run, int table) {
        StringBuilder text = new StringBuilder();
        for (int dropped = 0; dropped <= 5; dropped++) {
            for (int unknown = 10; unknown <= 12; unknown++) {
                NaiveNulls x = after(run);
                empty(x, 1 - table);
                for (int i = 0; i < dropped; i++) {
                    x.dropRow(table);
                }
                text.append("table ").append(table).append(" without ").append(dropped).append(", ");
                text.append(unknown).append(" in ").append(x.learn(unknown, 0)).append(" places:");
                read(x, table);
                text.append(possible(x)).append(System.lineSeparator());
            }
        }
        return text.toString();
    }

    private static NaiveNulls after(Consumer<NaiveNulls> run) {
        NaiveNulls x = new NaiveNulls();
        run.accept(x);
        return x;
    }

    private static void empty(NaiveNulls x, int table) {
        for (int i = 0; i < 5; i++) {
            x.dropRow(table);
        }
    }

    /** Puts one rule in place of all, whose answers are the rows of a table. */
    private static void read(NaiveNulls x, int table) {
        x.dropRules();
        x.rule(20, 21);
        x.atom(table, 20, 21);
    }

    private static String possible(NaiveNulls x) {
        StringBuilder text = new StringBuilder();
        for (int n = 0; n < 49; n++) {
            text.append(x.possible(n / 7, n % 7) ? couple(n) : "");
        }
        return text.toString();
    }

    private static String couple(int n) {
        return " (" + n / 7 + ", " + n % 7 + ")";
    }
}
