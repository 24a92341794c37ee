import java.util.List;
import java.util.Map;
import java.util.TreeSet;
import java.util.function.Supplier;
import java.util.function.ToLongFunction;

/** Refused calls change nothing but place(), and the others nothing but what is told of them. */
public final class ChangesTest {
    private static final String ARGUMENT = "throws.IllegalArgumentException";
    private static final String STATE = "throws.IllegalStateException";
    private static final String UNSUPPORTED = "throws.UnsupportedOperationException";
    private static final String INDEX = "throws.IndexOutOfBoundsException";
    private static final int MIN = Integer.MIN_VALUE;
    private static final int MAX = Integer.MAX_VALUE;
    private static final Check CHECK = new Check();
    private static final Sentences DOCUMENT = new Sentences(CHECK);

    public static void main(String[] args) {
        DOCUMENT.test("Terms", "A call that throws changes nothing but place()", ChangesTest::refusedCalls);
        DOCUMENT.test("Terms", "of several reasons the exception named first is thrown", ChangesTest::firstReason);
        DOCUMENT.test("Not promised", "the answers and state changes described above", ChangesTest::otherCalls);
        CHECK.end();
    }

    /**
     * Room is left for a table, for rows, for a question and in the text. A has the key 0, B two rows with the same
     * value in column 1, C all 8 rows; question 0 has the latest answer, 1 has more blocks, 2 too many rows.
     */
    private static BagPlanner some() {
        BagPlanner x = Check.withTables(3, 2, 1);
        x.key(0, 0);
        x.insert(0, 1, 5, 6);
        x.insert(0, 2, 5, 7);
        x.insert(1, 3, 8, 0);
        x.insert(1, 4, 8, 0);
        for (int i = 0; i < 8; i++) {
            x.insert(2, i, 0, 0);
        }
        Check.ask(x, "out x.1,x.0 of A x");
        Check.ask(x, "out x.0 of A x+out y.0 of B y");
        Check.ask(x, "out x.0,y.0,z.0 of C x,C y,C z");
        x.run(0);
        Check.write(x, "out");
        Check.outcome(x::question);
        x.wipe();
        Check.write(x, "set out 4,5");
        return x;
    }

    /** There is no room for a table nor a question, and the text is a question; place() is not -1. */
    private static BagPlanner full() {
        BagPlanner x = some();
        x.wipe();
        x.table(1);
        x.insert(3, 9, 0, 0);
        Check.ask(x, "out 7 of A x,A y where x.0=y.0");
        Check.write(x, "out 8 of");
        Check.outcome(x::question);
        Check.write(x, " A x");
        return x;
    }

    /** The text is of 200 characters. */
    private static BagPlanner longText() {
        BagPlanner x = some();
        Check.write(x, " ".repeat(189));
        return x;
    }

    /** Looks at what a call answers, and at which parts of the state are others after it. */
    private static void due(Supplier<BagPlanner> made, String name, ToLongFunction<BagPlanner> call, String want,
        String... changed) {
        Map<String, String> before = State.of(made);
        CHECK.due(name, Check.outcome(() -> call.applyAsLong(made.get())), want);
        Map<String, String> after = State.of(() -> {
            BagPlanner x = made.get();
            Check.outcome(() -> call.applyAsLong(x));
            return x;
        });
        TreeSet<String> others = new TreeSet<>();
        for (String part : before.keySet()) {
            if (!before.get(part).equals(after.get(part))) {
                others.add(part);
            }
        }
        CHECK.due("parts changed by " + name, others.toString(), new TreeSet<>(List.of(changed)).toString());
    }

    private static long keyOf(BagPlanner x, int table, int column) {
        x.key(table, column);
        return 0;
    }

    private static void refusedCalls() {
        refusedForTables(ChangesTest::some);
        refusedForTables(ChangesTest::full);
        due(ChangesTest::full, "table(1) with four", x -> x.table(1), STATE);
        refusedForQuestions(ChangesTest::some, 3);
        refusedForQuestions(ChangesTest::full, 4);
        refusedForAnswers(ChangesTest::some);
        refusedForAnswers(ChangesTest::full);
        refusedTexts();
        refusedByANewObject();
    }

    private static void refusedForTables(Supplier<BagPlanner> made) {
        for (int columns : new int[] {MIN, -1, 0, 4, MAX}) {
            due(made, "table(" + columns + ")", x -> x.table(columns), ARGUMENT);
        }
        due(made, "key(-1, 0)", x -> keyOf(x, -1, 0), ARGUMENT);
        due(made, "key(4, 0)", x -> keyOf(x, 4, 0), ARGUMENT);
        due(made, "key(0, -1)", x -> keyOf(x, 0, -1), ARGUMENT);
        due(made, "key(0, 3)", x -> keyOf(x, 0, 3), ARGUMENT);
        due(made, "key(1, 2)", x -> keyOf(x, 1, 2), ARGUMENT);
        due(made, "key(2, 1)", x -> keyOf(x, 2, 1), ARGUMENT);
        due(made, "key(0, 1) of two fives", x -> keyOf(x, 0, 1), STATE);
        due(made, "key(1, 1) of two eights", x -> keyOf(x, 1, 1), STATE);
        due(made, "insert(-1, ..)", x -> x.insert(-1, 1, 1, 1), ARGUMENT);
        due(made, "insert(4, ..)", x -> x.insert(4, 1, 1, 1), ARGUMENT);
        due(made, "insert(2, ..) with 8", x -> x.insert(2, 100, 100, 100), STATE);
        due(made, "insert(0, 1, ..) with the key 1", x -> x.insert(0, 1, 100, 100), STATE);
        due(made, "insert(0, 2, ..) with the key 2", x -> x.insert(0, 2, 5, 7), STATE);
        due(made, "delete(-1, ..)", x -> x.delete(-1, 0, 1), ARGUMENT);
        due(made, "delete(4, ..)", x -> x.delete(4, 0, 1), ARGUMENT);
        due(made, "delete(0, -1, ..)", x -> x.delete(0, -1, 1), ARGUMENT);
        due(made, "delete(0, 3, ..)", x -> x.delete(0, 3, 1), ARGUMENT);
        due(made, "delete(1, 2, ..)", x -> x.delete(1, 2, 0), ARGUMENT);
        due(made, "delete(2, 1, ..)", x -> x.delete(2, 1, 0), ARGUMENT);
    }

    private static void refusedForQuestions(Supplier<BagPlanner> made, int count) {
        for (int q : new int[] {MIN, -1, count, MAX}) {
            due(made, "run(" + q + ")", x -> x.run(q), ARGUMENT);
            due(made, "sources(" + q + ")", x -> x.sources(q), ARGUMENT);
            due(made, "alike(" + q + ", 0)", x -> x.alike(q, 0) ? 1 : 0, ARGUMENT);
            due(made, "alike(0, " + q + ")", x -> x.alike(0, q) ? 1 : 0, ARGUMENT);
        }
        due(made, "run(2) of 512 rows", x -> x.run(2), UNSUPPORTED);
        due(made, "sources(1) of two blocks", x -> x.sources(1), UNSUPPORTED);
        due(made, "alike(0, 1) of two blocks", x -> x.alike(0, 1) ? 1 : 0, UNSUPPORTED);
        due(made, "alike(1, 0) of two blocks", x -> x.alike(1, 0) ? 1 : 0, UNSUPPORTED);
    }

    private static void refusedForAnswers(Supplier<BagPlanner> made) {
        for (int k : new int[] {MIN, -1, 2, MAX}) {
            due(made, "row(" + k + ", 0)", x -> x.row(k, 0), INDEX);
            due(made, "row(0, " + k + ")", x -> x.row(0, k), INDEX);
            due(made, "times(" + k + ")", x -> x.times(k), INDEX);
        }
    }

    private static void refusedTexts() {
        due(ChangesTest::some, "question() of a start", BagPlanner::question, ARGUMENT, "place");
        due(ChangesTest::longText, "question() of 200", BagPlanner::question, ARGUMENT, "place");
        due(ChangesTest::full, "a fifth question()", BagPlanner::question, STATE, "place");
        due(() -> {
            BagPlanner x = full();
            x.write('+');
            return x;
        }, "a fifth question() that is none", BagPlanner::question, ARGUMENT, "place");
        due(() -> {
            BagPlanner x = some();
            x.wipe();
            Check.write(x, "set out 4,x.9 of A x");
            return x;
        }, "question() of a wrong column", BagPlanner::question, ARGUMENT, "place");
        due(ChangesTest::some, "write of 127", x -> x.write(127L << 56 | 'a') ? 1 : 0, "0");
        due(ChangesTest::some, "write of 31", x -> x.write(Check.pack("abc") | 31L << 24) ? 1 : 0, "0");
        due(ChangesTest::longText, "write behind 200", x -> x.write('a') ? 1 : 0, "0");
    }

    private static void refusedByANewObject() {
        due(BagPlanner::new, "table(0)", x -> x.table(0), ARGUMENT);
        due(BagPlanner::new, "table(4)", x -> x.table(4), ARGUMENT);
        due(BagPlanner::new, "key(0, 0)", x -> keyOf(x, 0, 0), ARGUMENT);
        due(BagPlanner::new, "insert(0, ..)", x -> x.insert(0, 1, 1, 1), ARGUMENT);
        due(BagPlanner::new, "delete(0, 0, 0)", x -> x.delete(0, 0, 0), ARGUMENT);
        due(BagPlanner::new, "question()", BagPlanner::question, ARGUMENT, "place");
        due(BagPlanner::new, "run(0)", x -> x.run(0), ARGUMENT);
        due(BagPlanner::new, "row(0, 0)", x -> x.row(0, 0), INDEX);
        due(BagPlanner::new, "times(0)", x -> x.times(0), INDEX);
        due(BagPlanner::new, "alike(0, 0)", x -> x.alike(0, 0) ? 1 : 0, ARGUMENT);
        due(BagPlanner::new, "sources(0)", x -> x.sources(0), ARGUMENT);
    }

    private static void firstReason() {
        due(ChangesTest::full, "table(0) with four", x -> x.table(0), ARGUMENT);
        due(ChangesTest::full, "table(4) with four", x -> x.table(4), ARGUMENT);
        due(ChangesTest::some, "key(1, 2), 1 having twins", x -> keyOf(x, 1, 2), ARGUMENT);
        due(ChangesTest::some, "key(2, 1), values behind being twins", x -> keyOf(x, 2, 1), ARGUMENT);
        due(ChangesTest::full, "insert(4, ..) with a key's value", x -> x.insert(4, 1, 1, 1), ARGUMENT);
        due(() -> {
            BagPlanner x = full();
            x.write(';');
            return x;
        }, "a fifth question() that is none", BagPlanner::question, ARGUMENT, "place");
        for (int q : new int[] {-1, 3}) {
            due(ChangesTest::some, "alike(1, " + q + "), 1 having two blocks", x -> x.alike(1, q) ? 1 : 0, ARGUMENT);
            due(ChangesTest::some, "alike(" + q + ", 1), 1 having two blocks", x -> x.alike(q, 1) ? 1 : 0, ARGUMENT);
        }
    }

    private static void otherCalls() {
        // To a table that comes belong rows and keys, none at first.
        due(ChangesTest::some, "table(2)", x -> x.table(2), "3", "tables", "rows", "keys");
        due(ChangesTest::some, "key(0, 2)", x -> keyOf(x, 0, 2), "0", "keys");
        due(ChangesTest::some, "key(0, 0) again", x -> keyOf(x, 0, 0), "0");
        due(ChangesTest::some, "insert(0, 9, ..)", x -> x.insert(0, 9, 5, 6), "3", "rows");
        due(ChangesTest::some, "delete(1, 1, 8)", x -> x.delete(1, 1, 8), "2", "rows");
        due(ChangesTest::some, "delete(0, 1, 6) of none", x -> x.delete(0, 1, 6), "0");
        due(ChangesTest::some, "write", x -> x.write('7') ? 1 : 0, "1", "text");
        due(ChangesTest::some, "write(0)", x -> x.write(0) ? 1 : 0, "1");
        due(ChangesTest::some, "wipe", BagPlanner::wipe, "11", "text");
        due(BagPlanner::new, "wipe of nothing", BagPlanner::wipe, "0");
        due(() -> {
            BagPlanner x = some();
            Check.write(x, " of A x");
            return x;
        }, "question", BagPlanner::question, "3", "text", "questions", "place");
        due(ChangesTest::some, "place", BagPlanner::place, "3");
        due(ChangesTest::some, "forget", BagPlanner::forget, "3", "questions");
        due(ChangesTest::full, "forget of four", BagPlanner::forget, "4", "questions");
        due(BagPlanner::new, "forget of none", BagPlanner::forget, "0");
        due(ChangesTest::some, "run(0) again", x -> x.run(0), "2");
        due(ChangesTest::some, "run(1)", x -> x.run(1), "4", "answer");
        due(ChangesTest::full, "run(3)", x -> x.run(3), "1", "answer");
        due(ChangesTest::some, "row(1, 1)", x -> x.row(1, 1), "2");
        due(ChangesTest::some, "times(1)", x -> x.times(1), "1");
        due(ChangesTest::some, "total", BagPlanner::total, "2");
        due(ChangesTest::some, "alike(0, 2)", x -> x.alike(0, 2) ? 1 : 0, "0");
        due(ChangesTest::full, "alike(3, 0)", x -> x.alike(3, 0) ? 1 : 0, "0");
        due(ChangesTest::full, "sources(3)", x -> x.sources(3), "1");
    }
}
