import java.util.function.LongSupplier;

/** Counts the answers that are not the due ones, and ends a test program. */
final class Check {
    static final Class<? extends RuntimeException> ARGUMENT = IllegalArgumentException.class;
    static final Class<? extends RuntimeException> STATE = IllegalStateException.class;
    static final Class<? extends RuntimeException> INDEX = IndexOutOfBoundsException.class;
    static final Class<? extends RuntimeException> UNSUPPORTED = UnsupportedOperationException.class;

    private int wrong;
    private int looked;

    void due(String what, long got, long want) {
        looked++;
        if (got != want) {
            wrong++;
            System.out.println(what + " answered " + got + ", due is " + want);
        }
    }

    void due(String what, boolean got, boolean want) {
        due(what, got ? 1 : 0, want ? 1 : 0);
    }

    void due(String what, String got, String want) {
        looked++;
        if (!got.equals(want)) {
            wrong++;
            System.out.println(what + " answered " + got + ", due is " + want);
        }
    }

    void dueThrow(String what, Class<? extends RuntimeException> want, Runnable call) {
        due(what, outcome(() -> {
            call.run();
            return 0;
        }), "throws." + want.getSimpleName());
    }

    /** The answer of a call as text, or the name of what it throws. */
    static String outcome(LongSupplier call) {
        try {
            return Long.toString(call.getAsLong());
        } catch (RuntimeException e) {
            return "throws." + e.getClass().getSimpleName();
        }
    }

    int wrong() {
        return wrong;
    }

    void end() {
        System.out.println(looked + " answers looked at, " + wrong + " not as due");
        if (wrong != 0) {
            System.exit(1);
        }
    }

    /** Writes a text of any length, eight characters a call. */
    static boolean write(BagPlanner x, String text) {
        boolean all = true;
        for (int from = 0; from < text.length(); from += 8) {
            all &= x.write(pack(text.substring(from, Math.min(from + 8, text.length()))));
        }
        return all;
    }

    static long pack(String text) {
        long packed = 0;
        for (int i = 0; i < text.length(); i++) {
            packed |= (long) text.charAt(i) << (8 * i);
        }
        return packed;
    }

    /** Writes a text and reads it as a question. */
    static int ask(BagPlanner x, String text) {
        write(x, text);
        return x.question();
    }

    /** The answer of a question, or what reading or running it throws; all questions and the text before are gone. */
    static String answerOf(BagPlanner x, String text) {
        x.wipe();
        x.forget();
        String outcome = outcome(() -> x.run(ask(x, text)));
        return outcome.startsWith("throws") ? outcome : answer(x);
    }

    /** An object with tables of these numbers of columns. */
    static BagPlanner withTables(int... columns) {
        BagPlanner x = new BagPlanner();
        for (int c : columns) {
            x.table(c);
        }
        return x;
    }

    /**
     * The latest answer, as it can be read call by call: rows with their values and how often each is there. It goes
     * one row and one value beyond what an answer can have, so that one that is too large is seen, and ends there.
     */
    static String answer(BagPlanner x) {
        StringBuilder rows = new StringBuilder();
        for (int k = 0; k <= 64 && !outcome(times(x, k)).startsWith("throws"); k++) {
            for (int c = 0; c <= 3 && !outcome(value(x, k, c)).startsWith("throws"); c++) {
                rows.append(c == 0 ? "" : ",").append(x.row(k, c));
            }
            rows.append("*").append(x.times(k)).append(" ");
        }
        return rows.toString().trim();
    }

    private static LongSupplier times(BagPlanner x, int k) {
        return () -> x.times(k);
    }

    private static LongSupplier value(BagPlanner x, int k, int c) {
        return () -> x.row(k, c);
    }
}
