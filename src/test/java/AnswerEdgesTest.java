/** The boundaries that the document names for rows and answers: promises 11 to 14, run, row, times and total. */
public final class AnswerEdgesTest {
    private static final int MIN = Integer.MIN_VALUE;
    private static final int MAX = Integer.MAX_VALUE;
    private static final Check CHECK = new Check();
    private static final Sentences DOCUMENT = new Sentences(CHECK);

    public static void main(String[] args) {
        rowsOfABlock();
        signs();
        runQuestion();
        readAnswer();
        CHECK.end();
    }

    private static void rowsOfABlock() {
        DOCUMENT.test("Terms", "take a row of each source's table in all ways", AnswerEdgesTest::allWays);
        DOCUMENT.test("Terms", "each way for which all conditions are true", AnswerEdgesTest::allConditions);
        DOCUMENT.test("Terms", "gives a row of the outputs' values", AnswerEdgesTest::outputs);
        DOCUMENT.test("Terms", "With set, the same row just once, however often it came", AnswerEdgesTest::justOnce);
    }

    private static void signs() {
        DOCUMENT.test("Terms", "THE ANSWER of a question is, from the left", AnswerEdgesTest::fromTheLeft);
        DOCUMENT.test("Terms", "with + all rows of both sides", AnswerEdgesTest::plus);
        DOCUMENT.test("Terms", "with - a row as often as it is on the left more than on the right",
            AnswerEdgesTest::minus);
        DOCUMENT.test("Terms", "with ^ as often as on that side where it is there less often", AnswerEdgesTest::both);
    }

    private static void runQuestion() {
        DOCUMENT.test(11, "Finds the answer of a question: how many different rows it has.",
            AnswerEdgesTest::differentRows);
        DOCUMENT.test(11, "Illegal argument: there is none with the number", AnswerEdgesTest::noSuchQuestion);
        DOCUMENT.test(11, "unsupported operation: a block", AnswerEdgesTest::largeBlock);
        DOCUMENT.test(11, "or what comes of + - ^ so far", AnswerEdgesTest::largeOnTheWay);
        DOCUMENT.test(11, "has more than 64 different rows", AnswerEdgesTest::sixtyFourDifferent);
        DOCUMENT.test(11, "(the answer before stays)", AnswerEdgesTest::answerBeforeStays);
        DOCUMENT.test("What it is", "at most 512 calls after it has been made", AnswerEdgesTest::manyCalls);
    }

    private static void readAnswer() {
        DOCUMENT.test(12, "Value c of the k-th different row of the latest answer", AnswerEdgesTest::latestAnswer);
        DOCUMENT.test(12, "they are ordered by their first values, then by their second ones, then by their third ones",
            AnswerEdgesTest::order);
        DOCUMENT.test(12, "Index out of bounds: there is no such row or value", AnswerEdgesTest::noSuchValue);
        DOCUMENT.test(13, "How often the k-th different row is there.", AnswerEdgesTest::howOften);
        DOCUMENT.test(13, "Index out of bounds: there is none", AnswerEdgesTest::timesOfNoRow);
        DOCUMENT.test(14, "How many rows the latest answer has in all", AnswerEdgesTest::rowsInAll);
        DOCUMENT.test(14, "(0 without one)", AnswerEdgesTest::totalWithoutAnswer);
    }

    /** An object with tables of one column; a string's digits are the values of a table's rows. */
    private static BagPlanner with(String... tables) {
        BagPlanner x = new BagPlanner();
        for (int table = 0; table < tables.length; table++) {
            x.table(1);
            for (char digit : tables[table].toCharArray()) {
                x.insert(table, digit - '0', 0, 0);
            }
        }
        return x;
    }

    private static void due(BagPlanner x, String text, String want) {
        CHECK.due("answer of '" + text + "'", Check.answerOf(x, text), want);
    }

    private static void allWays() {
        BagPlanner x = with("", "1", "12345678");
        due(x, "out 1 of A x", "");
        due(x, "out 1 of B x", "1*1");
        due(x, "out 1 of C x", "1*8");
        due(x, "out 1 of C x,C y,C z,C w", "1*4096");
        due(x, "out x.0 of C y,B x,C z,C w", "1*512");
        due(x, "out 1 of C x,C y,C z,A w", "");
        due(x, "out x.0 of C x,A y", "");
        due(x, "out x.0 of A y,C x", "");
        due(x, "out x.0 of C x,A y where x.0=1", "");
        due(x, "out y.0 of C x,B y where x.0<5", "1*4");
        BagPlanner y = with("122");
        due(y, "out x.0,y.0 of A x,A y", "1,1*1 1,2*2 2,1*2 2,2*4");
    }

    private static void allConditions() {
        BagPlanner x = with("123");
        String six = "out x.0 of A x where 1=1 and x.0<3 and 0<x.0 and 1<2 and x.0=x.0 and -1<0";
        due(x, "out x.0 of A x", "1*1 2*1 3*1");
        due(x, six, "1*1 2*1");
        String[] conditions = {"1=1", "x.0<3", "0<x.0", "1<2", "x.0=x.0", "-1<0"};
        for (String condition : conditions) {
            due(x, six.replace(" " + condition, " 1=2"), "");
        }
        due(x, "out x.0 of A x where x.0=2", "2*1");
        due(x, "out x.0 of A x where x.0<2", "1*1");
        due(x, "out x.0 of A x where 2<x.0", "3*1");
        due(x, "out x.0 of A x where x.0<x.0", "");
        due(x, "out x.0,y.0 of A x,A y where x.0<y.0", "1,2*1 1,3*1 2,3*1");
        due(x, "out x.0,y.0 of A x,A y where x.0=y.0", "1,1*1 2,2*1 3,3*1");
        BagPlanner y = Check.withTables(2);
        y.insert(0, MIN, MAX, 0);
        y.insert(0, MAX, MIN, 0);
        due(y, "out x.0 of A x where x.0<x.1", "-2147483648*1");
        due(y, "out x.0 of A x where x.1<x.0", "2147483647*1");
        due(y, "out x.0 of A x where x.0<-999", "-2147483648*1");
        due(y, "out x.0 of A x where 999<x.0", "2147483647*1");
        due(y, "out x.0 of A x,A y where x.0=y.1", "-2147483648*1 2147483647*1");
    }

    private static void outputs() {
        BagPlanner x = Check.withTables(3);
        x.insert(0, 4, 5, 6);
        due(x, "out x.0 of A x", "4*1");
        due(x, "out x.2,x.0 of A x", "6,4*1");
        due(x, "out x.1,x.1,x.1 of A x", "5,5,5*1");
        due(x, "out -999,x.2,999 of A x", "-999,6,999*1");
        due(x, "out 0,-0,007 of A x", "0,0,7*1");
    }

    private static void justOnce() {
        BagPlanner x = with("1112", "");
        due(x, "out x.0 of A x", "1*3 2*1");
        due(x, "set out x.0 of A x", "1*1 2*1");
        due(x, "set out 7 of A x,A y,A z,A w", "7*1");
        due(x, "set out 7 of B x", "");
        due(x, "set out x.0 of A x+set out x.0 of A x", "1*2 2*2");
        due(x, "set out x.0 of A x+out x.0 of A x", "1*4 2*2");
        due(x, "out x.0 of A x+set out x.0 of A x", "1*4 2*2");
        due(x, "out x.0 of A x-set out x.0 of A x", "1*2");
        due(x, "set out x.0 of A x-out x.0 of A x", "");
        due(x, "out x.0 of A x^set out x.0 of A x", "1*1 2*1");
    }

    private static void fromTheLeft() {
        BagPlanner x = with("1", "1", "1");
        due(x, "out x.0 of A x-out x.0 of B x+out x.0 of C x", "1*1");
        due(x, "out x.0 of A x-out x.0 of B x-out x.0 of C x", "");
        due(x, "out x.0 of A x+out x.0 of B x-out x.0 of C x", "1*1");
        due(x, "out x.0 of A x+out x.0 of B x^out x.0 of C x", "1*1");
        due(x, "out x.0 of A x^out x.0 of B x+out x.0 of C x", "1*2");
        due(x, "out x.0 of A x-out 2 of B x^out x.0 of C x", "1*1");
        due(x, "out 2 of A x^out x.0 of B x-out 2 of C x", "");
        due(x, "out 2 of A x-out 2 of B x^out x.0 of C x", "");
        due(x, "out x.0 of A x-out x.0 of B x,A y+out 3 of C x", "3*1");
    }

    private static void plus() {
        BagPlanner x = with("112", "", "123");
        due(x, "out x.0 of A x+out x.0 of B x", "1*2 2*1");
        due(x, "out x.0 of B x+out x.0 of A x", "1*2 2*1");
        due(x, "out x.0 of B x+out x.0 of B x", "");
        due(x, "out x.0 of A x+out x.0 of C x", "1*3 2*2 3*1");
        due(x, "out x.0 of A x+out x.0 of A x+out x.0 of A x", "1*6 2*3");
        due(x, "out x.0,1 of A x+out 1,x.0 of A x", "1,1*4 1,2*1 2,1*1");
    }

    private static void minus() {
        String text = "out x.0 of A x-out x.0 of B x";
        for (int left = 0; left <= 4; left++) {
            for (int right = 0; right <= 4; right++) {
                BagPlanner x = with("1".repeat(left) + "3", "1".repeat(right) + "2");
                due(x, text, left > right ? "1*" + (left - right) + " 3*1" : "3*1");
                due(x, text + "+out 1 of A x where x.0=3", "1*" + (Math.max(left - right, 0) + 1) + " 3*1");
            }
        }
        due(with("12", ""), text, "1*1 2*1");
        due(with("", "12"), text, "");
        BagPlanner fewer = with("123", "123");
        for (int value = 3; value >= 1; value--) {
            due(fewer, text, "1*1 2*1 3*1 ".substring(4 * value).trim());
            fewer.delete(1, 0, value);
        }
        due(fewer, text, "1*1 2*1 3*1");
        BagPlanner x = with("12345678");
        due(x, "out x.0 of A x-out x.0 of A x", "");
        due(x, "out 1 of A x,A y,A z,A w-out 1 of A x,A y,A z", "1*3584");
    }

    private static void both() {
        String text = "out x.0 of A x^out x.0 of B x";
        for (int left = 0; left <= 4; left++) {
            for (int right = 0; right <= 4; right++) {
                int less = Math.min(left, right);
                due(with("1".repeat(left) + "3", "1".repeat(right) + "2"), text, less == 0 ? "" : "1*" + less);
            }
        }
        due(with("12", ""), text, "");
        due(with("", "12"), text, "");
        BagPlanner fewer = with("123", "123");
        for (int value = 3; value >= 1; value--) {
            due(fewer, text, "1*1 2*1 3*1 ".substring(0, 4 * value).trim());
            fewer.delete(1, 0, value);
        }
        due(fewer, text, "");
        due(with("12345678", "87654321"), text, "1*1 2*1 3*1 4*1 5*1 6*1 7*1 8*1");
    }

    /** What run answers, or throws. */
    private static String runOf(BagPlanner x, String text) {
        x.wipe();
        x.forget();
        return Check.outcome(() -> x.run(Check.ask(x, text)));
    }

    private static void differentRows() {
        BagPlanner x = with("", "1", "11", "12345678");
        CHECK.due("of none", runOf(x, "out x.0 of A x"), "0");
        CHECK.due("of one", runOf(x, "out x.0 of B x"), "1");
        CHECK.due("of two that are the same", runOf(x, "out x.0 of C x"), "1");
        CHECK.due("of eight", runOf(x, "out x.0 of D x"), "8");
        CHECK.due("of 64", runOf(x, "out x.0,y.0 of D x,D y"), "64");
        CHECK.due("of 4096, 64 different", runOf(x, "out x.0,y.0 of D x,D y,D z,D w"), "64");
        CHECK.due("of 4096, one different", runOf(x, "out 1 of D x,D y,D z,D w"), "1");
        CHECK.due("by -", runOf(x, "out x.0 of D x-out x.0 of D x"), "0");
        CHECK.due("by +", runOf(x, "out x.0 of D x+out -9 of B x"), "9");
    }

    private static void noSuchQuestion() {
        for (int count = 0; count <= 4; count++) {
            BagPlanner x = with("1");
            for (int q = 0; q < count; q++) {
                Check.ask(x, "out " + q + " of A x");
            }
            for (int q : new int[] {MIN, -1, count, 4, 5, 256, MAX}) {
                CHECK.dueThrow("run " + q + " of " + count, Check.ARGUMENT, () -> x.run(q));
            }
            for (int q = 0; q < count; q++) {
                CHECK.due("run " + q + " of " + count, x.run(q), 1);
                CHECK.due("its answer", x.row(0, 0), q);
            }
        }
    }

    /**
     * An object whose question "out x.0,y.0,z.0 of A x,B y,C z where z.0<x.1 and z.0<y.1" has 64 different rows
     * and as many more as the given number, which is at most 8.
     */
    private static BagPlanner withSixtyFourAnd(int more) {
        BagPlanner x = Check.withTables(2, 2, 1);
        for (int i = 0; i < 8; i++) {
            x.insert(0, i, i < more ? 9 : 5, 0);
            x.insert(1, i, i < 1 ? 9 : 5, 0);
        }
        x.insert(2, 4, 0, 0);
        x.insert(2, 8, 0, 0);
        return x;
    }

    private static void largeBlock() {
        String large = "out x.0,y.0,z.0 of A x,B y,C z where z.0<x.1 and z.0<y.1";
        String small = "out 1,1,1 of C x where x.0<5";
        for (int more = 0; more <= 8; more++) {
            BagPlanner x = withSixtyFourAnd(more);
            String want = more == 0 ? "64" : "throws.UnsupportedOperationException";
            CHECK.due("64 and " + more, runOf(x, large), want);
            CHECK.due("a set of 64 and " + more, runOf(x, "set " + large), want);
        }
        for (int more = 0; more <= 1; more++) {
            BagPlanner x = withSixtyFourAnd(more);
            boolean fits = more == 0;
            String refused = "throws.UnsupportedOperationException";
            CHECK.due("- a block of 64 and " + more, runOf(x, small + "-" + large), fits ? "1" : refused);
            CHECK.due("^ a block of 64 and " + more, runOf(x, small + "^" + large), fits ? "0" : refused);
            CHECK.due("64 and " + more + " ^ one", runOf(x, large + "^" + small), fits ? "0" : refused);
            CHECK.due("64 and " + more + " - one", runOf(x, large + "-" + small), fits ? "64" : refused);
            CHECK.due("64 and " + more + " - the same", runOf(x, large + "-" + large), fits ? "0" : refused);
            CHECK.due("none - 64 and " + more, runOf(x, "out 1,1,1 of A x where 1=2-" + large), fits ? "0" : refused);
            CHECK.due("third, 64 and " + more, runOf(x, small + "-" + small + "^" + large), fits ? "0" : refused);
        }
    }

    private static void largeOnTheWay() {
        BagPlanner x = with("12345678", "1");
        String square = "out x.0,y.0 of A x,A y";
        String refused = "throws.UnsupportedOperationException";
        CHECK.due("64 + one of them", runOf(x, square + "+out 8,8 of B x"), "64");
        CHECK.due("64 + all of them", runOf(x, square + "+" + square), "64");
        CHECK.due("64 + another one", runOf(x, square + "+out 8,9 of B x"), refused);
        CHECK.due("one + 64 others", runOf(x, "out 0,0 of B x+" + square), refused);
        CHECK.due("65 on the way, 64 then", runOf(x, square + "+out 8,9 of B x-out 8,9 of B x"), refused);
        CHECK.due("65 on the way, one then", runOf(x, square + "+out 8,9 of B x^out 8,9 of B x"), refused);
        CHECK.due("63 + another one", runOf(x, square + "-out 8,8 of B x+out 8,9 of B x"), "64");
        CHECK.due("63 + two others", runOf(x, square + "-out 8,8 of B x+out 9,x.0 of A x where x.0<3"), refused);
        CHECK.due("64 + none + none", runOf(x, square + "+out 1,1 of B x where 1=2+out 1,1 of B x"), "64");
        CHECK.due("64 ^ 64", runOf(x, square + "^" + square), "64");
        CHECK.due("64 as 1 + 8 * 7 + 7",
            runOf(x, "out 9,9 of B x+out x.0,y.0 of A x,A y where x.0<8+out 8,x.0 of A x where x.0<8"), "64");
        CHECK.due("65 as 2 + 8 * 7 + 7", runOf(x,
            "out 9,x.0 of A x where x.0<3+out x.0,y.0 of A x,A y where x.0<8+out 8,x.0 of A x where x.0<8"), refused);
    }

    private static void sixtyFourDifferent() {
        BagPlanner x = with("12345678", "11111111");
        CHECK.due("64", runOf(x, "out x.0,y.0 of A x,A y"), "64");
        CHECK.due("the last of 64", x.row(63, 0) * 10 + x.row(63, 1), 88);
        CHECK.due("4096 of 64 different", runOf(x, "out x.0,y.0 of A x,A y,B z,B w"), "64");
        CHECK.due("in all", x.total(), 4096);
        CHECK.due("512", runOf(x, "out x.0,y.0,z.0 of A x,A y,A z"), "throws.UnsupportedOperationException");
        CHECK.due("512 of 64 different", runOf(x, "out x.0,y.0,z.0 of A x,A y,B z"), "64");
        CHECK.due("128 by the third value alone", runOf(x, "out 1,y.0,z.0 of A y,A z+out 2,y.0,z.0 of A y,A z"),
            "throws.UnsupportedOperationException");
    }

    private static void answerBeforeStays() {
        for (String large : new String[] {"out x.0,y.0,z.0 of A x,A y,A z", "out x.0,y.0 of A x,A y+out 9,9 of A x",
            "out 1,1,1 of A x-out x.0,y.0,z.0 of A x,A y,A z"}) {
            BagPlanner x = with("12345678");
            Check.ask(x, large);
            CHECK.dueThrow("too large", Check.UNSUPPORTED, () -> x.run(0));
            CHECK.due("there was none", x.total() + Check.answer(x), "0");
            Check.ask(x, "out x.0,7 of A x where x.0<3+out 2,7 of A x");
            x.run(1);
            CHECK.dueThrow("too large again", Check.UNSUPPORTED, () -> x.run(0));
            CHECK.due("the answer before", Check.answer(x), "1,7*1 2,7*9");
            CHECK.due("its total", x.total(), 10);
            CHECK.dueThrow("no such question", Check.ARGUMENT, () -> x.run(2));
            CHECK.due("the answer before, once more", Check.answer(x), "1,7*1 2,7*9");
        }
    }

    /** The last calls of 512 are answered as the first ones are. */
    private static void manyCalls() {
        BagPlanner x = new BagPlanner();
        x.table(1);
        for (int i = 1; i <= 8; i++) {
            x.insert(0, i, 0, 0);
        }
        x.write(Check.pack("out x.0,"));
        x.write(Check.pack("y.0 of A"));
        x.write(Check.pack(" x,A y,A"));
        x.write(Check.pack(" z,A w"));
        x.question();
        for (int call = 14; call < 512; call += 2) {
            CHECK.due("call " + (call + 1), x.run(0), 64);
            CHECK.due("call " + (call + 2), x.total(), 4096);
        }
        BagPlanner y = Check.withTables(1);
        for (int call = 1; call < 511; call += 2) {
            CHECK.due("insert in call " + (call + 1), y.insert(0, call, 0, 0), 1);
            CHECK.due("delete in call " + (call + 2), y.delete(0, 0, call), 1);
        }
    }

    private static void latestAnswer() {
        BagPlanner x = with("12", "3");
        Check.ask(x, "out x.0 of A x");
        Check.ask(x, "out 5,y.0 of B y");
        Check.ask(x, "out x.0 of A x where 1=2");
        x.run(0);
        CHECK.due("the first", Check.answer(x), "1*1 2*1");
        x.run(1);
        CHECK.due("the second", Check.answer(x), "5,3*1");
        x.run(0);
        CHECK.due("the first again", Check.answer(x), "1*1 2*1");
        x.delete(0, 0, 1);
        x.insert(0, 7, 0, 0);
        CHECK.due("it stays when rows change", Check.answer(x), "1*1 2*1");
        x.run(0);
        CHECK.due("of the rows that are there now", Check.answer(x), "2*1 7*1");
        x.run(2);
        CHECK.due("an empty one is one, too", Check.answer(x), "");
        x.run(1);
        x.forget();
        x.wipe();
        CHECK.due("it stays when questions are forgotten", Check.answer(x), "5,3*1");
    }

    private static void order() {
        BagPlanner x = Check.withTables(3);
        int[][] rows = {{1, 2, 3}, {1, 2, MIN}, {1, 2, MAX}, {MAX, MIN, 0},
            {MIN, MAX, 0}, {1, -2, 9}, {-1, 5, 5}, {1, 2, 3}};
        for (int[] row : rows) {
            x.insert(0, row[0], row[1], row[2]);
        }
        due(x, "out x.0,x.1,x.2 of A x", "-2147483648,2147483647,0*1 -1,5,5*1 1,-2,9*1 1,2,-2147483648*1 1,2,3*2"
            + " 1,2,2147483647*1 2147483647,-2147483648,0*1");
        due(x, "out x.0,x.1 of A x", "-2147483648,2147483647*1 -1,5*1 1,-2*1 1,2*4 2147483647,-2147483648*1");
        due(x, "out x.0 of A x", "-2147483648*1 -1*1 1*5 2147483647*1");
        due(x, "out x.2,x.0 of A x where x.0=1", "-2147483648,1*1 3,1*2 9,1*1 2147483647,1*1");
        due(x, "out x.2 of A x where x.1=2+out -5 of A x where x.0=-1+out x.0 of A x where x.0<0",
            "-2147483648*2 -5*1 -1*1 3*2 2147483647*1");
    }

    private static void noSuchValue() {
        CHECK.dueThrow("without an answer", Check.INDEX, () -> new BagPlanner().row(0, 0));
        for (int width = 1; width <= 3; width++) {
            BagPlanner x = with("12345678");
            Check.ask(x, "out x.0,20,30".substring(0, 4 + 3 * width) + " of A x where x.0<4");
            CHECK.due("rows", x.run(0), 3);
            for (int k : new int[] {MIN, -3, -1, 0, 1, 2, 3, 4, 63, 64, 1431655766, MAX}) {
                for (int c : new int[] {MIN, -3, -1, 0, 1, 2, 3, 4, 6, MAX}) {
                    boolean there = k >= 0 && k < 3 && c >= 0 && c < width;
                    CHECK.due("row(" + k + ", " + c + ") of 3 rows of " + width, Check.outcome(() -> x.row(k, c)),
                        there ? "" + (c == 0 ? k + 1 : 10 + 10 * c) : "throws.IndexOutOfBoundsException");
                }
            }
        }
        BagPlanner x = with("12345678");
        Check.ask(x, "out x.0,y.0,5 of A x,A y");
        Check.ask(x, "out x.0 of A x where x.0<2");
        Check.ask(x, "out 1,2,3 of A x where 1=2");
        x.run(0);
        CHECK.due("the last of 64", x.row(63, 2), 5);
        CHECK.dueThrow("a 65th", Check.INDEX, () -> x.row(64, 0));
        x.run(1);
        CHECK.dueThrow("a second of one", Check.INDEX, () -> x.row(1, 0));
        CHECK.dueThrow("a second value of one", Check.INDEX, () -> x.row(0, 1));
        x.run(2);
        CHECK.dueThrow("the first of none", Check.INDEX, () -> x.row(0, 0));
    }

    private static void howOften() {
        BagPlanner x = with("122333", "12345678");
        Check.ask(x, "out x.0 of A x");
        Check.ask(x, "out 1 of B x,B y,B z,B w+out 1 of B x,B y,B z,B w+out 1 of B x,B y,B z,B w");
        x.run(0);
        for (int k = 0; k < 3; k++) {
            CHECK.due("times(" + k + ")", x.times(k), k + 1);
        }
        x.run(1);
        CHECK.due("as often as can be", x.times(0), 12288);
    }

    private static void timesOfNoRow() {
        CHECK.dueThrow("without an answer", Check.INDEX, () -> new BagPlanner().times(0));
        BagPlanner x = with("12345678");
        Check.ask(x, "out x.0,y.0 of A x,A y");
        Check.ask(x, "out x.0 of A x where x.0<3");
        Check.ask(x, "out x.0 of A x where 1=2");
        x.run(0);
        CHECK.due("the last of 64", x.times(63), 1);
        CHECK.dueThrow("a 65th", Check.INDEX, () -> x.times(64));
        x.run(1);
        CHECK.due("the second of two", x.times(1), 1);
        for (int k : new int[] {MIN, -1, 2, 3, 63, 64, MAX}) {
            CHECK.dueThrow("times(" + k + ") of two", Check.INDEX, () -> x.times(k));
        }
        x.run(2);
        CHECK.dueThrow("the first of none", Check.INDEX, () -> x.times(0));
    }

    private static void rowsInAll() {
        BagPlanner x = with("122333", "12345678");
        Check.ask(x, "out x.0 of A x");
        Check.ask(x, "out x.0,y.0 of B x,B y,B z,B w+out x.0,y.0 of B x,B y,B z,B w+out x.0,y.0 of B x,B y,B z,B w");
        Check.ask(x, "set out x.0 of A x");
        Check.ask(x, "out x.0 of A x where 1=2");
        x.run(0);
        CHECK.due("of three different", x.total(), 6);
        x.run(1);
        CHECK.due("as many as can be", x.total(), 12288);
        x.run(2);
        CHECK.due("of a set", x.total(), 3);
        x.run(3);
        CHECK.due("of none", x.total(), 0);
    }

    private static void totalWithoutAnswer() {
        CHECK.due("of a new object", new BagPlanner().total(), 0);
        BagPlanner x = with("12345678");
        Check.ask(x, "out x.0,y.0,z.0 of A x,A y,A z");
        CHECK.due("of a question that was not run", x.total(), 0);
        CHECK.dueThrow("too large", Check.UNSUPPORTED, () -> x.run(0));
        CHECK.due("of a run that was refused", x.total(), 0);
        CHECK.dueThrow("no such question", Check.ARGUMENT, () -> x.run(1));
        CHECK.due("of no question", x.total(), 0);
    }
}
