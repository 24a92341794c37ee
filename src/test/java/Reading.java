/** Texts read as questions, each by a new object with a table A of 3 columns and a table B of 2. */
final class Reading {
    private final Check check;

    Reading(Check check) {
        this.check = check;
    }

    static BagPlanner planner() {
        return Check.withTables(3, 2);
    }

    void good(String... texts) {
        for (String text : texts) {
            place(text, -1);
        }
    }

    /** Looks at what question() answers, at place(), and at whether the text stays. */
    void place(String text, int want) {
        BagPlanner x = planner();
        check.due("all of '" + text + "' was written", Check.write(x, text), true);
        check.due("question of '" + text + "'", Check.outcome(x::question),
            want == -1 ? "0" : "throws.IllegalArgumentException");
        check.due("place of '" + text + "'", x.place(), want);
        check.due("length of the text after '" + text + "'", x.wipe(), want == -1 ? 0 : text.length());
        check.due("questions after '" + text + "'", x.forget(), want == -1 ? 1 : 0);
    }

    /** The wrong token is the one that begins where the bar stands, which is no part of the text. */
    void wrong(String... texts) {
        for (String text : texts) {
            int bar = text.indexOf('|');
            place(text.substring(0, bar) + text.substring(bar + 1), bar);
        }
    }
}
