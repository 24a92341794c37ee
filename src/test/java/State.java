import java.util.Map;
import java.util.TreeMap;
import java.util.function.Function;
import java.util.function.Supplier;

/**
 * What can be seen of an object's state, part by part. To look at a part may change the others, so each is looked
 * at on an object of its own, made in the same way.
 */
final class State {
    private State() {
    }

    static Map<String, String> of(Supplier<BagPlanner> made) {
        Map<String, Function<BagPlanner, String>> parts = new TreeMap<>();
        parts.put("place", x -> Integer.toString(x.place()));
        parts.put("answer", x -> Check.answer(x) + " in all " + x.total());
        parts.put("text", State::text);
        parts.put("questions", x -> x.forget() + " of them");
        parts.put("meaning of questions", State::meaning);
        parts.put("tables", State::tables);
        parts.put("rows", State::rows);
        parts.put("keys", State::keys);
        Map<String, String> seen = new TreeMap<>();
        parts.forEach((part, look) -> seen.put(part, look.apply(made.get())));
        String length = made.get().wipe() + " characters";
        seen.merge("text", length, (text, more) -> text + ", " + more);
        seen.merge("questions", seen.remove("meaning of questions"), (count, more) -> count + ": " + more);
        return seen;
    }

    /** How the text goes on to be read. */
    private static String text(BagPlanner x) {
        x.forget();
        boolean written = Check.write(x, " of A x where 1=1");
        String outcome = Check.outcome(x::question);
        String answer = outcome.equals("0") ? x.run(0) + " rows, " + Check.answer(x) : "";
        return written + ", " + outcome + ", " + x.place() + ", " + answer;
    }

    /** What questions tell when all tables have the same few rows. */
    private static String meaning(BagPlanner x) {
        for (int table = 0; table < 4; table++) {
            for (int value = 0; value < 10; value++) {
                int unwanted = value;
                int from = table;
                Check.outcome(() -> x.delete(from, 0, unwanted));
            }
            int into = table;
            Check.outcome(() -> x.insert(into, 1, 2, 3));
            Check.outcome(() -> x.insert(into, 2, 3, 4));
        }
        StringBuilder all = new StringBuilder();
        for (int q = -1; q < 5; q++) {
            int asked = q;
            String outcome = Check.outcome(() -> x.run(asked));
            all.append(outcome).append(" ").append(outcome.startsWith("throws") ? "" : Check.answer(x)).append("; ");
            all.append(Check.outcome(() -> x.sources(asked))).append("; ");
        }
        return all.toString();
    }

    /** How many columns each table has, and how many tables there is room for. */
    private static String tables(BagPlanner x) {
        StringBuilder all = new StringBuilder();
        for (int table = -1; table < 5; table++) {
            for (int column = -1; column < 4; column++) {
                int t = table;
                int c = column;
                all.append(Check.outcome(() -> x.delete(t, c, 12345)).startsWith("throws") ? '-' : '+');
            }
        }
        for (int more = 0; more < 5; more++) {
            all.append(" ").append(Check.outcome(() -> x.table(1)));
        }
        return all.toString();
    }

    private static String rows(BagPlanner x) {
        StringBuilder all = new StringBuilder();
        for (char table = 'A'; table <= 'D'; table++) {
            for (int column = 0; column < 3; column++) {
                all.append(Check.answerOf(x, "out x." + column + " of " + table + " x")).append("; ");
            }
        }
        return all.toString();
    }

    private static String keys(BagPlanner x) {
        StringBuilder all = new StringBuilder();
        for (char table = 'A'; table <= 'D'; table++) {
            for (int column = 0; column < 3; column++) {
                x.wipe();
                x.forget();
                String twice = "out 1 of " + table + " x," + table + " y where x." + column + "=y." + column;
                all.append(Check.outcome(() -> x.sources(Check.ask(x, twice)))).append(" ");
            }
        }
        return all.toString();
    }
}
