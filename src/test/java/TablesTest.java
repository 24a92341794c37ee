/** Promises 1 to 5: a new object, table, key, insert, delete. */
public final class TablesTest {
    private static final Check CHECK = new Check();

    public static void main(String[] args) {
        newObject();
        makeTables();
        makeKeys();
        insertRows();
        insertIntoKeys();
        deleteRows();
        CHECK.end();
    }

    private static void newObject() {
        BagPlanner x = new BagPlanner();
        CHECK.due("new: total", x.total(), 0);
        CHECK.due("new: place", x.place(), -1);
        CHECK.due("new: forget", x.forget(), 0);
        CHECK.due("new: wipe", x.wipe(), 0);
        CHECK.dueThrow("new: row", Check.INDEX, () -> x.row(0, 0));
        CHECK.dueThrow("new: times", Check.INDEX, () -> x.times(0));
        CHECK.dueThrow("new: run", Check.ARGUMENT, () -> x.run(0));
        CHECK.dueThrow("new: alike", Check.ARGUMENT, () -> x.alike(0, 0));
        CHECK.dueThrow("new: sources", Check.ARGUMENT, () -> x.sources(0));
        CHECK.dueThrow("new: insert", Check.ARGUMENT, () -> x.insert(0, 1, 1, 1));
        CHECK.dueThrow("new: key", Check.ARGUMENT, () -> x.key(0, 0));
        CHECK.dueThrow("new: delete", Check.ARGUMENT, () -> x.delete(0, 0, 0));
        CHECK.due("new: the first table", x.table(1), 0);
    }

    private static void makeTables() {
        BagPlanner x = new BagPlanner();
        for (int columns : new int[] {0, 4, -1, Integer.MAX_VALUE, Integer.MIN_VALUE}) {
            CHECK.dueThrow("table of " + columns, Check.ARGUMENT, () -> x.table(columns));
        }
        CHECK.due("table A", x.table(3), 0);
        CHECK.due("table B", x.table(1), 1);
        CHECK.due("table C", x.table(2), 2);
        CHECK.due("table D", x.table(3), 3);
        CHECK.dueThrow("table E", Check.STATE, () -> x.table(1));
        CHECK.dueThrow("a fifth table of 4: the argument is named first", Check.ARGUMENT, () -> x.table(4));
        CHECK.dueThrow("column 2 of C", Check.ARGUMENT, () -> x.key(2, 2));
        CHECK.dueThrow("column 1 of B", Check.ARGUMENT, () -> x.delete(1, 1, 0));
        CHECK.due("column 2 of D", x.delete(3, 2, 0), 0);
    }

    private static void makeKeys() {
        BagPlanner x = Check.withTables(2, 3);
        x.insert(0, 1, 7, 0);
        x.insert(0, 2, 7, 0);
        x.insert(0, 3, 8, 0);
        for (int column : new int[] {-1, 2, 3, Integer.MIN_VALUE}) {
            CHECK.dueThrow("key(0, " + column + ")", Check.ARGUMENT, () -> x.key(0, column));
        }
        CHECK.dueThrow("key(2, 0)", Check.ARGUMENT, () -> x.key(2, 0));
        CHECK.dueThrow("key(-1, 0)", Check.ARGUMENT, () -> x.key(-1, 0));
        CHECK.dueThrow("key(0, 1) with two sevens", Check.STATE, () -> x.key(0, 1));
        CHECK.due("a key that was refused is none", x.insert(0, 4, 7, 0), 4);
        x.key(0, 0);
        x.key(0, 0);
        CHECK.dueThrow("insert a second 3", Check.STATE, () -> x.insert(0, 3, 100, 0));
        x.delete(0, 1, 7);
        x.key(0, 1);
        CHECK.dueThrow("insert a second 8", Check.STATE, () -> x.insert(0, 100, 8, 0));
        CHECK.due("keys of one table are not those of another", x.insert(1, 3, 8, 0), 1);
        CHECK.due("the same row there again", x.insert(1, 3, 8, 0), 2);
        CHECK.dueThrow("key with the last two rows alike", Check.STATE, () -> x.key(1, 2));
        BagPlanner y = Check.withTables(1);
        y.insert(0, 5, 0, 0);
        y.insert(0, 6, 0, 0);
        y.insert(0, 5, 0, 0);
        CHECK.dueThrow("the first and the last row alike", Check.STATE, () -> y.key(0, 0));
        y.delete(0, 0, 5);
        y.key(0, 0);
        for (int i = 10; i < 17; i++) {
            y.insert(0, i, 0, 0);
        }
        y.key(0, 0);
        CHECK.due("a key of eight rows", y.delete(0, 0, 16), 1);
    }

    private static void insertRows() {
        BagPlanner x = Check.withTables(1, 2, 3);
        CHECK.dueThrow("insert(3, ..)", Check.ARGUMENT, () -> x.insert(3, 0, 0, 0));
        CHECK.dueThrow("insert(-1, ..)", Check.ARGUMENT, () -> x.insert(-1, 0, 0, 0));
        for (int i = 1; i <= 8; i++) {
            CHECK.due("insert row " + i, x.insert(2, 5, -5, Integer.MIN_VALUE), i);
        }
        CHECK.dueThrow("a ninth row", Check.STATE, () -> x.insert(2, 5, 5, 5));
        CHECK.dueThrow("no table, said before anything", Check.ARGUMENT, () -> x.insert(4, 5, 5, 5));
        Check.ask(x, "out x.0,x.1,x.2 of C x");
        CHECK.due("eight times the row", x.run(0), 1);
        CHECK.due("eight times the row", Check.answer(x), "5,-5,-2147483648*8");
    }

    private static void insertIntoKeys() {
        BagPlanner x = Check.withTables(2, 3);
        x.key(0, 0);
        x.key(1, 1);
        x.key(1, 2);
        x.insert(0, 1, 2, 3);
        CHECK.due("same value beside the key", x.insert(0, 2, 2, 3), 2);
        CHECK.dueThrow("same value in the key", Check.STATE, () -> x.insert(0, 1, 9, 9));
        CHECK.due("a row that was refused is not there", x.insert(0, 3, 9, 9), 3);
        x.insert(1, 1, 2, 3);
        CHECK.dueThrow("same value in the first of two keys", Check.STATE, () -> x.insert(1, 1, 2, 9));
        CHECK.dueThrow("same value in the second of two keys", Check.STATE, () -> x.insert(1, 1, 9, 3));
        CHECK.due("new values in both keys", x.insert(1, 1, 3, 2), 2);
    }

    private static void deleteRows() {
        BagPlanner x = Check.withTables(2, 2);
        x.insert(0, 1, 1, 0);
        x.insert(0, 2, 5, 0);
        x.insert(0, 1, 2, 0);
        x.insert(0, 3, 5, 0);
        x.insert(1, 1, 1, 0);
        Check.ask(x, "out x.0,x.1 of A x");
        CHECK.dueThrow("delete(0, 2, ..)", Check.ARGUMENT, () -> x.delete(0, 2, 0));
        CHECK.dueThrow("delete(0, -1, ..)", Check.ARGUMENT, () -> x.delete(0, -1, 0));
        CHECK.dueThrow("delete(2, 0, ..)", Check.ARGUMENT, () -> x.delete(2, 0, 0));
        CHECK.dueThrow("delete(-1, 0, ..)", Check.ARGUMENT, () -> x.delete(-1, 0, 0));
        CHECK.due("delete what is not there", x.delete(0, 0, 9), 0);
        CHECK.due("delete both with 1", x.delete(0, 0, 1), 2);
        x.run(0);
        CHECK.due("what is left", Check.answer(x), "2,5*1 3,5*1");
        CHECK.due("once more", x.delete(0, 0, 1), 0);
        CHECK.due("by the second column", x.delete(0, 1, 5), 2);
        CHECK.due("none is left", x.run(0), 0);
        CHECK.due("the other table keeps its row", x.delete(1, 0, 1), 1);
        CHECK.due("there is room again", x.insert(0, 4, 4, 0), 1);
        x.key(0, 0);
        x.delete(0, 0, 4);
        CHECK.due("a key's value that was taken out may come again", x.insert(0, 4, 5, 0), 1);
        CHECK.dueThrow("a key stays one when all rows are out", Check.STATE, () -> x.insert(0, 4, 6, 0));
    }
}
