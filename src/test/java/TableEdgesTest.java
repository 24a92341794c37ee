/** The boundaries that the document names for a new object, table, key, insert and delete: promises 1 to 5. */
public final class TableEdgesTest {
    private static final int MIN = Integer.MIN_VALUE;
    private static final int MAX = Integer.MAX_VALUE;
    private static final Check CHECK = new Check();
    private static final Sentences DOCUMENT = new Sentences(CHECK);

    public static void main(String[] args) {
        tables();
        newObject();
        makeTable();
        makeKey();
        insertRow();
        deleteRows();
        CHECK.end();
    }

    private static void tables() {
        DOCUMENT.test("Terms", "TABLES are A, B, C, D (0 .. 3) in the order in which they are made",
            TableEdgesTest::orderOfTables);
        DOCUMENT.test("Terms", "each has 1 to 3 COLUMNS, from 0", TableEdgesTest::columnsFromZero);
        DOCUMENT.test("Terms", "of which some may be KEYS", TableEdgesTest::someKeys);
        DOCUMENT.test("Terms", "at most 8 ROWS", TableEdgesTest::eightRows);
        DOCUMENT.test("Terms", "of ints", TableEdgesTest::allInts);
        DOCUMENT.test("Terms", "of which the same may be there several times", TableEdgesTest::sameRowEightTimes);
        DOCUMENT.test("Terms", "but no two with the same value in a key", TableEdgesTest::noTwoInAKey);
    }

    private static void newObject() {
        DOCUMENT.test(1, "No tables", TableEdgesTest::newWithoutTables);
        DOCUMENT.test(1, "no questions", TableEdgesTest::newWithoutQuestions);
        DOCUMENT.test(1, "the text is empty", TableEdgesTest::newWithEmptyText);
        DOCUMENT.test(1, "there is no answer", TableEdgesTest::newWithoutAnswer);
    }

    private static void makeTable() {
        DOCUMENT.test(2, "Makes a table: its number.", TableEdgesTest::numbersOfTables);
        DOCUMENT.test(2, "Illegal argument: columns is not 1 .. 3", TableEdgesTest::oneToThreeColumns);
        DOCUMENT.test(2, "illegal state: there are 4", TableEdgesTest::fourTables);
    }

    private static void makeKey() {
        DOCUMENT.test(3, "A column of a table is a key from now on.", TableEdgesTest::keyFromNowOn);
        DOCUMENT.test(3, "Illegal argument: there is no such table or column", TableEdgesTest::keyOfNoColumn);
        DOCUMENT.test(3, "illegal state: two rows have the same value there", TableEdgesTest::keyOfTwins);
    }

    private static void insertRow() {
        DOCUMENT.test(4, "how many rows it has then", TableEdgesTest::rowsAfterInsert);
        DOCUMENT.test(4, "of values behind the table's columns nothing is taken", TableEdgesTest::valuesBehind);
        DOCUMENT.test(4, "Illegal argument: there is no such table", TableEdgesTest::insertIntoNoTable);
        DOCUMENT.test(4, "illegal state: it has 8", TableEdgesTest::insertIntoFullTable);
        DOCUMENT.test(4, "or a row has the same value in a key", TableEdgesTest::insertSameKey);
    }

    private static void deleteRows() {
        DOCUMENT.test(5, "Takes all rows of a table with a value in a column out: how many.",
            TableEdgesTest::deleteAllWithValue);
        DOCUMENT.test(5, "Illegal argument: there is no such table or column", TableEdgesTest::deleteByNoColumn);
    }

    /** An object whose table A has this number of columns and this many rows (0, 10, 20), (1, 11, 21) and so on. */
    private static BagPlanner withRows(int columns, int rows) {
        BagPlanner x = Check.withTables(columns);
        for (int i = 0; i < rows; i++) {
            x.insert(0, i, 10 + i, 20 + i);
        }
        return x;
    }

    private static void orderOfTables() {
        BagPlanner x = Check.withTables(3, 2, 1);
        CHECK.due("no table D yet", Check.answerOf(x, "out 1 of D x"), "throws.IllegalArgumentException");
        x.table(3);
        for (int table = 0; table < 4; table++) {
            x.insert(table, 100 + table, 0, 0);
            CHECK.due("table " + table, Check.answerOf(x, "out x.0 of " + "ABCD".charAt(table) + " x"),
                100 + table + "*1");
        }
        CHECK.due("there is no table E", Check.answerOf(x, "out 1 of E x"), "throws.IllegalArgumentException");
        CHECK.due("nor Z", Check.answerOf(x, "out 1 of Z x"), "throws.IllegalArgumentException");
    }

    private static void columnsFromZero() {
        for (int columns = 1; columns <= 3; columns++) {
            BagPlanner x = withRows(columns, 1);
            for (int column = 0; column < columns; column++) {
                CHECK.due("column " + column + " of " + columns, Check.answerOf(x, "out x." + column + " of A x"),
                    10 * column + "*1");
            }
            CHECK.due("column " + columns + " of " + columns, Check.answerOf(x, "out x." + columns + " of A x"),
                "throws.IllegalArgumentException");
        }
    }

    private static void someKeys() {
        for (int keys = 0; keys < 8; keys++) {
            for (int column = 0; column < 3; column++) {
                BagPlanner x = withRows(3, 2);
                declare(x, keys);
                int[] row = {100, 100, 100};
                row[column] = 10 * column;
                boolean isKey = (keys >> column & 1) == 1;
                CHECK.due("keys " + keys + ", column " + column,
                    Check.outcome(() -> x.insert(0, row[0], row[1], row[2])),
                    isKey ? "throws.IllegalStateException" : "3");
            }
        }
    }

    private static void declare(BagPlanner x, int keys) {
        for (int column = 0; column < 3; column++) {
            if ((keys >> column & 1) == 1) {
                x.key(0, column);
            }
        }
    }

    private static void eightRows() {
        BagPlanner x = withRows(1, 7);
        CHECK.due("the eighth", x.insert(0, 7, 0, 0), 8);
        CHECK.dueThrow("the ninth", Check.STATE, () -> x.insert(0, 8, 0, 0));
        CHECK.due("all eight", Check.answerOf(x, "out x.0 of A x"), "0*1 1*1 2*1 3*1 4*1 5*1 6*1 7*1");
    }

    private static void allInts() {
        BagPlanner x = Check.withTables(3);
        x.insert(0, MIN, MAX, -1);
        x.insert(0, MAX, MIN, 0);
        CHECK.due("extremes", Check.answerOf(x, "out x.0,x.1,x.2 of A x"),
            "-2147483648,2147483647,-1*1 2147483647,-2147483648,0*1");
    }

    private static void sameRowEightTimes() {
        BagPlanner x = Check.withTables(2);
        for (int i = 1; i <= 8; i++) {
            CHECK.due("the same row, time " + i, x.insert(0, 5, 6, 0), i);
        }
        CHECK.due("eight times the same", Check.answerOf(x, "out x.0,x.1 of A x"), "5,6*8");
    }

    private static void noTwoInAKey() {
        BagPlanner x = Check.withTables(2);
        x.key(0, 1);
        x.insert(0, 5, 6, 0);
        CHECK.dueThrow("the same row again", Check.STATE, () -> x.insert(0, 5, 6, 0));
        CHECK.dueThrow("the key's value again", Check.STATE, () -> x.insert(0, 7, 6, 0));
        CHECK.due("the other column's value again", x.insert(0, 5, 7, 0), 2);
        CHECK.dueThrow("the other column is no key then", Check.STATE, () -> x.key(0, 0));
    }

    private static void newWithoutTables() {
        CHECK.dueThrow("insert", Check.ARGUMENT, () -> new BagPlanner().insert(0, 1, 1, 1));
        CHECK.dueThrow("key", Check.ARGUMENT, () -> new BagPlanner().key(0, 0));
        CHECK.dueThrow("delete", Check.ARGUMENT, () -> new BagPlanner().delete(0, 0, 0));
        BagPlanner x = new BagPlanner();
        CHECK.due("question", Check.answerOf(x, "out 1 of A x"), "throws.IllegalArgumentException");
        CHECK.due("its capital is wrong", x.place(), 9);
        CHECK.due("the first table", new BagPlanner().table(1), 0);
        BagPlanner y = withRows(1, 8);
        CHECK.due("an object has tables of its own", new BagPlanner().table(1) + y.table(1), 1);
    }

    private static void newWithoutQuestions() {
        CHECK.due("forget", new BagPlanner().forget(), 0);
        CHECK.dueThrow("run", Check.ARGUMENT, () -> new BagPlanner().run(0));
        CHECK.dueThrow("sources", Check.ARGUMENT, () -> new BagPlanner().sources(0));
        CHECK.dueThrow("alike", Check.ARGUMENT, () -> new BagPlanner().alike(0, 0));
        CHECK.due("the first question", Check.ask(Check.withTables(1), "out 1 of A x"), 0);
    }

    private static void newWithEmptyText() {
        CHECK.due("wipe", new BagPlanner().wipe(), 0);
        BagPlanner x = new BagPlanner();
        CHECK.dueThrow("question", Check.ARGUMENT, x::question);
        CHECK.due("it ends too early, at once", x.place(), 0);
    }

    private static void newWithoutAnswer() {
        CHECK.due("total", new BagPlanner().total(), 0);
        CHECK.dueThrow("row", Check.INDEX, () -> new BagPlanner().row(0, 0));
        CHECK.dueThrow("times", Check.INDEX, () -> new BagPlanner().times(0));
    }

    private static void numbersOfTables() {
        BagPlanner x = new BagPlanner();
        for (int table = 0; table < 4; table++) {
            CHECK.due("table " + table, x.table(1 + table % 3), table);
        }
    }

    private static void oneToThreeColumns() {
        for (int columns : new int[] {MIN, -1, 0, 4, 5, 257, MAX}) {
            BagPlanner x = new BagPlanner();
            CHECK.dueThrow("table of " + columns, Check.ARGUMENT, () -> x.table(columns));
            CHECK.due("none was made by " + columns, x.table(1), 0);
        }
        for (int columns = 1; columns <= 3; columns++) {
            CHECK.due("table of " + columns, new BagPlanner().table(columns), 0);
        }
    }

    private static void fourTables() {
        BagPlanner x = Check.withTables(1, 1, 1);
        CHECK.due("the fourth", x.table(3), 3);
        for (int columns = 1; columns <= 3; columns++) {
            int wanted = columns;
            CHECK.dueThrow("a fifth of " + columns, Check.STATE, () -> x.table(wanted));
        }
        CHECK.dueThrow("there is none with number 4", Check.ARGUMENT, () -> x.insert(4, 0, 0, 0));
        CHECK.due("the fourth keeps its columns", x.delete(3, 2, 0), 0);
        CHECK.dueThrow("and the third its own", Check.ARGUMENT, () -> x.delete(2, 1, 0));
    }

    private static void keyFromNowOn() {
        BagPlanner x = Check.withTables(2, 2);
        x.key(0, 1);
        CHECK.due("a first row", x.insert(0, 1, 1, 0), 1);
        CHECK.dueThrow("a key of an empty table", Check.STATE, () -> x.insert(0, 2, 1, 0));
        CHECK.due("no key of another table", x.insert(1, 1, 1, 0) + x.insert(1, 1, 1, 0), 3);
        x.key(0, 1);
        CHECK.due("declared twice: another value", x.insert(0, 1, 2, 0), 2);
        CHECK.dueThrow("declared twice: the same value", Check.STATE, () -> x.insert(0, 3, 2, 0));
        CHECK.due("the rows are out", x.delete(0, 0, 1), 2);
        x.insert(0, 1, 1, 0);
        CHECK.dueThrow("it is still a key", Check.STATE, () -> x.insert(0, 2, 1, 0));
        BagPlanner y = withRows(2, 2);
        CHECK.due("before", y.insert(0, 1, 50, 0), 3);
        y.key(0, 1);
        CHECK.due("beside the key", y.insert(0, 1, 51, 0), 4);
        CHECK.dueThrow("from now on", Check.STATE, () -> y.insert(0, 9, 50, 0));
    }

    private static void keyOfNoColumn() {
        for (int columns = 1; columns <= 3; columns++) {
            BagPlanner x = withRows(columns, 2);
            for (int column : new int[] {MIN, -3, -1, columns, 3, 256, MAX}) {
                CHECK.dueThrow("column " + column + " of " + columns, Check.ARGUMENT, () -> x.key(0, column));
            }
            for (int table : new int[] {MIN, -1, 1, 2, 4, MAX}) {
                CHECK.dueThrow("no table " + table, Check.ARGUMENT, () -> x.key(table, 0));
            }
            for (int column = 0; column < columns; column++) {
                x.key(0, column);
            }
            int[] row = {50, 50, 50};
            row[columns - 1] = 10 * columns - 9;
            CHECK.dueThrow("the last column is a key", Check.STATE, () -> x.insert(0, row[0], row[1], row[2]));
        }
    }

    private static void keyOfTwins() {
        for (int column = 0; column < 3; column++) {
            for (int first = 0; first < 8; first++) {
                for (int second = first + 1; second < 8; second++) {
                    keyOfTwins(column, first, second);
                }
            }
        }
        BagPlanner x = Check.withTables(1);
        x.key(0, 0);
        BagPlanner y = withRows(1, 1);
        y.key(0, 0);
        BagPlanner z = Check.withTables(1);
        z.insert(0, MIN, 0, 0);
        z.insert(0, MAX, 0, 0);
        z.insert(0, -1, 0, 0);
        z.insert(0, 0, 0, 0);
        z.key(0, 0);
        CHECK.dueThrow("a key of extremes", Check.STATE, () -> z.insert(0, MIN, 0, 0));
    }

    private static void keyOfTwins(int column, int first, int second) {
        BagPlanner x = Check.withTables(3);
        for (int i = 0; i < 8; i++) {
            int value = i == second ? first : i;
            x.insert(0, column == 0 ? value : i, column == 1 ? value : i, column == 2 ? value : i);
        }
        for (int other = 0; other < 3; other++) {
            int wanted = other;
            CHECK.due("rows " + first + " and " + second + " have the same in column " + column + ": key " + other,
                Check.outcome(() -> {
                    x.key(0, wanted);
                    return 0;
                }), other == column ? "throws.IllegalStateException" : "0");
        }
        x.delete(0, column, first);
        x.key(0, column);
    }

    private static void rowsAfterInsert() {
        BagPlanner x = Check.withTables(1, 1);
        for (int rows = 1; rows <= 8; rows++) {
            CHECK.due("A's row " + rows, x.insert(0, rows % 3, 0, 0), rows);
        }
        CHECK.due("B's first", x.insert(1, 0, 0, 0), 1);
        x.delete(0, 0, 0);
        CHECK.due("A's after two went out", x.insert(0, 0, 0, 0), 7);
    }

    private static void valuesBehind() {
        BagPlanner x = Check.withTables(1, 2, 3);
        x.key(0, 0);
        x.key(1, 0);
        x.insert(0, 1, 7, MIN);
        CHECK.due("the same two behind", x.insert(0, 2, 7, MIN), 2);
        CHECK.due("the first value again, but behind", x.insert(0, 7, 1, 1), 3);
        x.insert(1, 1, 7, MAX);
        CHECK.due("the same one behind", x.insert(1, 2, 8, MAX), 2);
        x.insert(2, 1, 7, 9);
        CHECK.due("of one column", Check.answerOf(x, "out x.0 of A x"), "1*1 2*1 7*1");
        CHECK.due("of two columns", Check.answerOf(x, "out x.0,x.1 of B x"), "1,7*1 2,8*1");
        CHECK.due("of three columns", Check.answerOf(x, "out x.0,x.1,x.2 of C x"), "1,7,9*1");
        CHECK.dueThrow("no column 1", Check.ARGUMENT, () -> x.delete(0, 1, 7));
        CHECK.dueThrow("no column 2", Check.ARGUMENT, () -> x.delete(1, 2, MAX));
    }

    private static void insertIntoNoTable() {
        for (int tables = 0; tables <= 4; tables++) {
            BagPlanner x = new BagPlanner();
            for (int i = 0; i < tables; i++) {
                x.table(1);
                CHECK.due("table " + i, x.insert(i, 1, 1, 1), 1);
            }
            for (int table : new int[] {MIN, -1, tables, tables + 1, 256, MAX}) {
                CHECK.dueThrow("table " + table + " of " + tables, Check.ARGUMENT, () -> x.insert(table, 1, 1, 1));
            }
        }
    }

    private static void insertIntoFullTable() {
        BagPlanner x = withRows(2, 7);
        x.table(2);
        CHECK.due("the eighth", x.insert(0, 7, 17, 0), 8);
        CHECK.dueThrow("the ninth", Check.STATE, () -> x.insert(0, 8, 18, 0));
        CHECK.dueThrow("the ninth, as one that is there", Check.STATE, () -> x.insert(0, 7, 17, 0));
        CHECK.due("another table is not full", x.insert(1, 8, 18, 0), 1);
        x.delete(0, 0, 3);
        CHECK.due("one went out, one comes in", x.insert(0, 8, 18, 0), 8);
        CHECK.dueThrow("full again", Check.STATE, () -> x.insert(0, 9, 19, 0));
        CHECK.due("the rows", Check.answerOf(x, "out x.0,x.1 of A x"),
            "0,10*1 1,11*1 2,12*1 4,14*1 5,15*1 6,16*1 7,17*1 8,18*1");
    }

    private static void insertSameKey() {
        for (int column = 0; column < 3; column++) {
            for (int there = 0; there < 7; there++) {
                BagPlanner x = withRows(3, 7);
                x.key(0, column);
                int[] row = {50, 50, 50};
                row[column] = 10 * column + there;
                CHECK.dueThrow("the key's value of row " + there, Check.STATE,
                    () -> x.insert(0, row[0], row[1], row[2]));
                row[column] = 50;
                row[(column + 1) % 3] = (column + 1) % 3 * 10 + there;
                row[(column + 2) % 3] = 10 * column + there;
                CHECK.due("the values of row " + there + " beside the key", x.insert(0, row[0], row[1], row[2]), 8);
            }
        }
        BagPlanner x = Check.withTables(1, 1);
        x.key(0, 0);
        x.insert(0, MIN, 0, 0);
        CHECK.due("the other extreme", x.insert(0, MAX, 0, 0), 2);
        CHECK.due("one beside it", x.insert(0, MIN + 1, 0, 0), 3);
        CHECK.dueThrow("the same extreme", Check.STATE, () -> x.insert(0, MAX, 0, 0));
        CHECK.due("another table's", x.insert(1, MAX, 0, 0), 1);
        x.delete(0, 0, MAX);
        CHECK.due("it went out and comes again", x.insert(0, MAX, 0, 0), 3);
    }

    private static void deleteAllWithValue() {
        CHECK.due("of an empty table", Check.withTables(1).delete(0, 0, 0), 0);
        for (int row = 0; row < 8; row++) {
            BagPlanner x = withRows(2, 8);
            CHECK.due("no such value", x.delete(0, 0, 8) + x.delete(0, 1, row), 0);
            CHECK.due("row " + row, x.delete(0, 1, 10 + row), 1);
            CHECK.due("it is out", x.delete(0, 0, row), 0);
            for (int other = 0; other < 8; other++) {
                CHECK.due("row " + other + " without row " + row, x.delete(0, 0, other), other == row ? 0 : 1);
            }
            CHECK.due("none is left", x.insert(0, 1, 1, 1), 1);
        }
        BagPlanner x = Check.withTables(3, 3);
        for (int i = 0; i < 8; i++) {
            x.insert(0, MIN, i % 2, i / 4);
            x.insert(1, MIN, i % 2, i / 4);
        }
        CHECK.due("not the other extreme", x.delete(0, 0, MAX), 0);
        CHECK.due("every second one", x.delete(0, 1, 0), 4);
        CHECK.due("what is left", Check.answerOf(x, "out x.1,x.2 of A x"), "1,0*2 1,1*2");
        CHECK.due("the first half", x.delete(0, 2, 0), 2);
        CHECK.due("the rest", x.delete(0, 0, MIN), 2);
        CHECK.due("all eight of the other table", x.delete(1, 0, MIN), 8);
        CHECK.due("there is room for eight", x.insert(1, 0, 0, 0), 1);
    }

    private static void deleteByNoColumn() {
        for (int columns = 1; columns <= 3; columns++) {
            BagPlanner x = withRows(columns, 8);
            for (int column : new int[] {MIN, -3, -1, columns, 3, 256, MAX}) {
                CHECK.dueThrow("column " + column + " of " + columns, Check.ARGUMENT, () -> x.delete(0, column, 0));
            }
            for (int table : new int[] {MIN, -1, 1, 2, 4, MAX}) {
                CHECK.dueThrow("no table " + table, Check.ARGUMENT, () -> x.delete(table, 0, 0));
            }
            CHECK.due("the last column", x.delete(0, columns - 1, 10 * columns - 10), 1);
        }
    }
}
