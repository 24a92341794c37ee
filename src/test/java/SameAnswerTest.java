import java.util.Random;

/** The document's first sentence: what alike proves holds for whatever is in the tables. */
public final class SameAnswerTest {
    private static final int PAIRS = 4000;
    private static final int ROWS_READ = 40;
    private static final Check CHECK = new Check();
    private static final Sentences DOCUMENT = new Sentences(CHECK);

    private final Random random;
    private final int[] columns;
    private final boolean[][] keys;
    private final RandomBlock block;

    private SameAnswerTest(int seed) {
        random = new Random(seed);
        columns = new int[1 + random.nextInt(4)];
        keys = new boolean[columns.length][3];
        for (int table = 0; table < columns.length; table++) {
            columns[table] = 1 + random.nextInt(3);
            for (int column = 0; column < columns[table]; column++) {
                keys[table][column] = random.nextInt(3) == 0;
            }
        }
        block = new RandomBlock(random, columns, columns.length, 1 + random.nextInt(3));
    }

    public static void main(String[] args) {
        DOCUMENT.test("What it is", "proves of two questions that they always have the same answer,"
            + " whatever is in the tables that keeps what was declared", SameAnswerTest::alikeQuestions);
        CHECK.end();
    }

    private static void alikeQuestions() {
        int alikeWithAChange = 0;
        for (int seed = 0; seed < PAIRS; seed++) {
            SameAnswerTest pair = new SameAnswerTest(seed);
            String first = pair.block.write();
            if (pair.isQuestion(first)) {
                pair.compare(first, pair.block.otherWay(pair.keys).write(), true);
                alikeWithAChange += pair.compare(first, pair.block.withAChange().write(), false) ? 1 : 0;
            }
        }
        CHECK.due("a change left some questions alike", alikeWithAChange > PAIRS / 20, true);
    }

    private BagPlanner planner() {
        BagPlanner x = Check.withTables(columns);
        for (int table = 0; table < columns.length; table++) {
            for (int column = 0; column < columns[table]; column++) {
                if (keys[table][column]) {
                    x.key(table, column);
                }
            }
        }
        return x;
    }

    /** By chance a block has a column that its table has not. */
    private boolean isQuestion(String text) {
        return !Check.outcome(() -> Check.ask(planner(), text)).startsWith("throws");
    }

    /** Whether the questions are alike; if they are, their answers are compared with several rows in the tables. */
    private boolean compare(String first, String second, boolean mustBeAlike) {
        if (!isQuestion(second)) {
            return false;
        }
        String what = "'" + first + "' and '" + second + "'";
        BagPlanner x = planner();
        Check.ask(x, first);
        Check.ask(x, second);
        boolean alike = x.alike(0, 1);
        CHECK.due("alike the other way round: " + what, x.alike(1, 0), alike);
        CHECK.due("alike: " + what, alike || !mustBeAlike, true);
        if (alike) {
            CHECK.due("sources left: " + what, x.sources(1), x.sources(0));
            for (int times = 0; times < 3; times++) {
                compareAnswers(what, first, second);
            }
        }
        return alike;
    }

    private void compareAnswers(String what, String first, String second) {
        BagPlanner x = planner();
        Check.ask(x, first);
        Check.ask(x, second);
        for (int table = 0; table < columns.length; table++) {
            for (int row = random.nextInt(9); row > 0; row--) {
                int here = table;
                // A row that breaks a key is refused: then the table has one less.
                Check.outcome(() -> x.insert(here, value(), value(), value()));
            }
        }
        CHECK.due("answers of " + what, answerOf(x, 1), answerOf(x, 0));
    }

    private int value() {
        return random.nextInt(6) - 1;
    }

    /** No more rows than leave the object within its 512 calls. */
    private static String answerOf(BagPlanner x, int q) {
        String outcome = Check.outcome(() -> x.run(q));
        if (outcome.startsWith("throws")) {
            return outcome;
        }
        StringBuilder answer = new StringBuilder(outcome).append(" different of ").append(x.total());
        for (int k = 0; k < Integer.parseInt(outcome) && k < ROWS_READ; k++) {
            answer.append(" ").append(x.times(k)).append("*").append(x.row(k, 0));
            for (int c = 1; c < 3; c++) {
                int column = c;
                int row = k;
                answer.append(",").append(Check.outcome(() -> x.row(row, column)));
            }
        }
        return answer.toString();
    }
}
