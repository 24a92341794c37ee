/** Questions of one block each, about tables A of 2 columns, B of 3 and C of 1, of which some columns are keys. */
final class Blocks {
    private final Check check;
    private final String[] keys;

    /** A key is told by its table's capital and its column. */
    Blocks(Check check, String... keys) {
        this.check = check;
        this.keys = keys;
    }

    /** A new object with the tables and keys, and these questions. */
    BagPlanner planner(String... texts) {
        BagPlanner x = Check.withTables(2, 3, 1);
        for (String key : keys) {
            x.key(key.charAt(0) - 'A', key.charAt(1) - '0');
        }
        for (String text : texts) {
            Check.ask(x, text);
        }
        return x;
    }

    void alike(String p, String... others) {
        for (String q : others) {
            alikeDue(p, q, true);
        }
    }

    void notAlike(String p, String... others) {
        for (String q : others) {
            alikeDue(p, q, false);
        }
    }

    void alikeDue(String p, String q, boolean want) {
        BagPlanner x = planner(p, q);
        check.due("'" + p + "' and '" + q + "'", x.alike(0, 1), want);
        check.due("'" + q + "' and '" + p + "'", x.alike(1, 0), want);
        check.due("'" + p + "' and itself", x.alike(0, 0), true);
        check.due("'" + q + "' and itself", x.alike(1, 1), true);
    }

    /** How many sources are due to be left of each block. */
    void sources(int want, String... texts) {
        for (String text : texts) {
            check.due("sources of '" + text + "'", planner(text).sources(0), want);
        }
    }
}
