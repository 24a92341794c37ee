import java.util.Random;
import java.util.function.LongSupplier;

/**
 * Long runs of calls, the same each time, with answers compared to the model's; and alike questions, whose
 * answers must be the same whatever is in the tables.
 */
public final class RandomRunsTest {
    private static final int RUNS = 500;
    private static final int CALLS = 512;
    private static final Check CHECK = new Check();

    private final Random random;
    private final BagPlanner x = new BagPlanner();
    private final Model model = new Model();
    private final int[] columns = new int[4];
    private int tables;
    private RandomBlock latest;
    private int calls;

    private RandomRunsTest(int seed) {
        random = new Random(seed);
    }

    public static void main(String[] args) {
        int runs = args.length == 0 ? RUNS : Integer.parseInt(args[0]);
        for (int seed = 0; seed < runs; seed++) {
            new RandomRunsTest(seed).compareRun(seed);
        }
        CHECK.end();
    }

    private void compareRun(int seed) {
        for (int first = below(4); first >= 0 || tables == 0; first--) {
            makeTable();
        }
        while (calls < CALLS) {
            step(seed);
        }
    }

    private void step(int seed) {
        String run = "run " + seed + ": ";
        int table = below(5) - (below(20) == 0 ? 1 : 0);
        int column = below(3) + (below(20) == 0 ? 2 : 0) - (below(20) == 0 ? 1 : 0);
        int q = below(4) + (below(10) == 0 ? 1 : 0) - (below(10) == 0 ? 1 : 0);
        int p = below(4);
        int k = below(10) - (below(9) == 0 ? 1 : 0);
        int a = value();
        int b = value();
        int c = value();
        switch (below(16)) {
            case 0, 1, 2 -> both(run + "insert " + table, () -> x.insert(table, a, b, c),
                () -> model.insert(table, a, b, c));
            case 3 -> both(run + "delete", () -> x.delete(table, column, a), () -> model.delete(table, column, a));
            case 4 -> {
                if (below(4) == 0) {
                    both(run + "key " + table + " " + column, () -> {
                        x.key(table, column);
                        return 0;
                    }, () -> model.key(table, column));
                }
            }
            case 5, 6, 7, 8 -> ask(run);
            case 9, 10 -> {
                both(run + "run " + q, () -> x.run(q), () -> model.run(q));
                compareAnswer(run);
            }
            case 11, 12 -> {
                both(run + "alike " + p + " " + q, () -> x.alike(p, q) ? 1 : 0, () -> model.alike(p, q) ? 1 : 0);
                compareIfAlike(run, p, q);
            }
            case 13 -> both(run + "sources " + q, () -> x.sources(q), () -> model.sources(q));
            case 14 -> {
                both(run + "row", () -> x.row(k, column), () -> model.row(k, column));
                both(run + "times", () -> x.times(k), () -> model.times(k));
                if (below(10) == 0) {
                    makeTable();
                }
            }
            default -> {
                if (below(2) == 0) {
                    both(run + "forget", x::forget, model::forget);
                }
            }
        }
    }

    private int below(int bound) {
        return random.nextInt(bound);
    }

    private int value() {
        return below(30) == 0 ? random.nextInt() : below(5) - 1;
    }

    private void makeTable() {
        int wanted = below(15) == 0 ? below(2) * 4 : 1 + below(3);
        both("table " + wanted, () -> x.table(wanted), () -> model.table(wanted));
        if (tables < 4 && wanted % 4 != 0) {
            columns[tables] = wanted;
            tables++;
        }
    }

    /** Makes a call of both and compares; none behind the last one of which something is promised. */
    private void both(String what, LongSupplier got, LongSupplier want) {
        if (calls == CALLS) {
            return;
        }
        calls++;
        CHECK.due(what, Check.outcome(got), Check.outcome(want));
    }

    private void compareAnswer(String run) {
        both(run + "total", x::total, model::total);
        for (int k = 0; k < 64 && calls < CALLS; k += 1 + below(20)) {
            int row = k;
            both(run + "times " + row, () -> x.times(row), () -> model.times(row));
            for (int c = 0; c < 3; c++) {
                int column = c;
                both(run + "row " + row, () -> x.row(row, column), () -> model.row(row, column));
            }
        }
    }

    /** Questions that are alike must have the same answer, too many rows being one. */
    private void compareIfAlike(String run, int p, int q) {
        if (p != q && Check.outcome(() -> model.alike(p, q) ? 1 : 0).equals("1")) {
            both(run + "run " + p, () -> x.run(p), () -> model.run(p));
            compareAnswer(run);
            String one = model.answer();
            both(run + "run " + q, () -> x.run(q), () -> model.run(q));
            compareAnswer(run);
            CHECK.due(run + "answers of alike questions", model.answer(), one);
        }
    }

    private void ask(String run) {
        String text = questionText();
        if (below(3) == 0) {
            text = spoilt(text);
        }
        for (int from = 0; from < text.length(); from += 8) {
            long packed = Check.pack(text.substring(from, Math.min(from + 8, text.length())));
            both(run + "write", () -> x.write(packed) ? 1 : 0, () -> model.write(packed) ? 1 : 0);
        }
        both(run + "question '" + text + "'", x::question, model::question);
        both(run + "place of '" + text + "'", x::place, model::place);
        both(run + "wipe", x::wipe, model::wipe);
    }

    private String questionText() {
        int outputs = 1 + below(3);
        if (latest == null || below(3) != 0) {
            latest = new RandomBlock(random, columns, tables, outputs);
        }
        StringBuilder all = new StringBuilder(latest.write());
        for (int more = below(6) - 3; more > 0; more--) {
            all.append(" ").append("+-^".charAt(below(3))).append(" ");
            RandomBlock other = new RandomBlock(random, columns, tables, outputs);
            all.append(below(3) == 0 ? latest.write() : other.write());
        }
        return all.toString();
    }

    private String spoilt(String text) {
        StringBuilder spoilt = new StringBuilder(text);
        for (int i = below(3); i >= 0 && spoilt.length() > 0; i--) {
            int at = below(spoilt.length());
            char c = below(4) == 0 ? (char) (32 + below(95)) : " ,.=<+-^09apqrABCD".charAt(below(18));
            switch (below(5)) {
                case 0 -> spoilt.deleteCharAt(at);
                case 1 -> spoilt.insert(at, c);
                case 2 -> spoilt.setCharAt(at, c);
                case 3 -> spoilt.setLength(at);
                default -> spoilt.insert(at, spoilt.substring(at, Math.min(spoilt.length(), at + 5)));
            }
        }
        return spoilt.toString();
    }
}
