/** The boundaries that the document names for question, place and forget: promises 8 to 10. */
public final class QuestionEdgesTest {
    private static final String BLOCK = "out 1 of A x";
    private static final Check CHECK = new Check();
    private static final Sentences DOCUMENT = new Sentences(CHECK);
    private static final Reading READ = new Reading(CHECK);

    public static void main(String[] args) {
        readQuestion();
        tellPlace();
        forgetQuestions();
        CHECK.end();
    }

    private static void readQuestion() {
        DOCUMENT.test(8, "Reads the text as a question: its number, 0, 1, ..", QuestionEdgesTest::numbers);
        DOCUMENT.test(8, "the text is empty then", QuestionEdgesTest::emptyThen);
        DOCUMENT.test(8, "Illegal argument: it is none (the text stays)", QuestionEdgesTest::textOfNoneStays);
        DOCUMENT.test(8, "illegal state: there are 4", QuestionEdgesTest::fourQuestions);
        DOCUMENT.test(8, "(The text stays then, too", QuestionEdgesTest::textOfAFifthStays);
        DOCUMENT.test(8, "place() tells -1.)", QuestionEdgesTest::placeOfAFifth);
    }

    private static void tellPlace() {
        DOCUMENT.test(9, "in the latest call of question()", QuestionEdgesTest::placeOfLatestCall);
        DOCUMENT.test(9, "at which character the first token begins with which it can't go on to be one",
            QuestionEdgesTest::placeOfToken);
        DOCUMENT.test(9, "(the length of the text, if it just ends too early)", QuestionEdgesTest::endsTooEarly);
        DOCUMENT.test(9, "but if a block, behind which + or - or ^ or nothing stands", QuestionEdgesTest::behindABlock);
        DOCUMENT.test(9, "has a value whose name is that of no source of it", QuestionEdgesTest::nameOfNoSource);
        DOCUMENT.test(9, "or whose column its table has not", QuestionEdgesTest::columnOfNoTable);
        DOCUMENT.test(9, "or has other than the first block's number of outputs", QuestionEdgesTest::otherOutputs);
        DOCUMENT.test(9, "at which its own first token begins", QuestionEdgesTest::firstTokenOfBlock);
        DOCUMENT.test(9, "-1 when it was one", QuestionEdgesTest::placeOfAQuestion);
        DOCUMENT.test(9, "or there was no call", QuestionEdgesTest::placeWithoutCall);
    }

    private static void forgetQuestions() {
        DOCUMENT.test(10, "Forgets all questions", QuestionEdgesTest::allForgotten);
        DOCUMENT.test(10, "how many they were", QuestionEdgesTest::howManyForgotten);
    }

    /** An object that has table A with one row, (7), and this many questions. */
    private static BagPlanner withQuestions(int count) {
        BagPlanner x = Check.withTables(1);
        x.insert(0, 7, 0, 0);
        for (int i = 0; i < count; i++) {
            Check.ask(x, "out " + i + " of A x");
        }
        return x;
    }

    private static String answerOf(BagPlanner x, int q) {
        x.run(q);
        return Check.answer(x);
    }

    private static void numbers() {
        BagPlanner x = withQuestions(0);
        for (int q = 0; q < 4; q++) {
            CHECK.due("question " + q, Check.ask(x, "out " + q + " of A x"), q);
        }
        for (int q = 0; q < 4; q++) {
            CHECK.due("answer of " + q, answerOf(x, q), q + "*1");
        }
        BagPlanner y = withQuestions(1);
        Check.write(y, "out");
        CHECK.dueThrow("none", Check.ARGUMENT, y::question);
        y.wipe();
        CHECK.due("a text that was none takes no number", Check.ask(y, BLOCK), 1);
    }

    private static void emptyThen() {
        BagPlanner x = withQuestions(1);
        CHECK.due("wipe", x.wipe(), 0);
        BagPlanner y = withQuestions(1);
        CHECK.dueThrow("the same once more", Check.ARGUMENT, y::question);
        CHECK.due("it ends at once", y.place(), 0);
        BagPlanner z = Check.withTables(1);
        Check.write(z, BLOCK + " ".repeat(188));
        z.question();
        CHECK.due("there is room for 200", Check.write(z, "a".repeat(200)), true);
        CHECK.due("and for no more", z.write('a'), false);
    }

    private static void textOfNoneStays() {
        BagPlanner x = withQuestions(0);
        Check.write(x, "out 5 of");
        CHECK.dueThrow("a part", Check.ARGUMENT, x::question);
        CHECK.dueThrow("and again", Check.ARGUMENT, x::question);
        Check.write(x, " A x");
        CHECK.due("the part and the rest", Check.outcome(x::question), "0");
        CHECK.due("its answer", answerOf(x, 0), "5*1");
        for (String text : new String[] {"", " ", ";", "out z.0 of A x", "out 5 of B x", "a".repeat(200)}) {
            BagPlanner y = withQuestions(1);
            Check.write(y, text);
            CHECK.dueThrow("'" + text + "'", Check.ARGUMENT, y::question);
            CHECK.due("length of '" + text + "'", y.wipe(), text.length());
            CHECK.due("no question came of '" + text + "'", y.forget(), 1);
        }
    }

    private static void fourQuestions() {
        BagPlanner x = withQuestions(3);
        CHECK.due("the fourth", Check.ask(x, "out 3 of A x"), 3);
        Check.write(x, "out 4 of A x");
        CHECK.dueThrow("the fifth", Check.STATE, x::question);
        CHECK.dueThrow("the fifth again", Check.STATE, x::question);
        CHECK.dueThrow("there is none with number 4", Check.ARGUMENT, () -> x.run(4));
        for (int q = 0; q < 4; q++) {
            CHECK.due("answer of " + q, answerOf(x, q), q + "*1");
        }
        CHECK.due("still four", x.forget(), 4);
        CHECK.due("now it is the first", Check.outcome(x::question), "0");
        CHECK.due("its answer", answerOf(x, 0), "4*1");
    }

    private static void textOfAFifthStays() {
        BagPlanner x = withQuestions(4);
        Check.write(x, BLOCK);
        CHECK.dueThrow("the fifth", Check.STATE, x::question);
        CHECK.due("its text", x.wipe(), BLOCK.length());
        BagPlanner y = withQuestions(4);
        Check.write(y, BLOCK);
        CHECK.dueThrow("the fifth", Check.STATE, y::question);
        Check.write(y, "+out 7 of A x");
        CHECK.dueThrow("and more", Check.STATE, y::question);
        y.forget();
        y.question();
        CHECK.due("answer of the longer text", answerOf(y, 0), "1*1 7*1");
    }

    private static void placeOfAFifth() {
        BagPlanner x = withQuestions(4);
        Check.write(x, "out 1 of");
        CHECK.dueThrow("none", Check.ARGUMENT, x::question);
        CHECK.due("its place", x.place(), 8);
        Check.write(x, " A x");
        CHECK.dueThrow("a fifth", Check.STATE, x::question);
        CHECK.due("place of a fifth", x.place(), -1);
        Check.write(x, " ;");
        CHECK.dueThrow("none: that reason is named first", Check.ARGUMENT, x::question);
        CHECK.due("place of none", x.place(), 13);
    }

    private static void placeOfLatestCall() {
        BagPlanner x = withQuestions(1);
        Check.write(x, "out 1 1");
        CHECK.dueThrow("first call", Check.ARGUMENT, x::question);
        x.wipe();
        CHECK.due("the text is wiped", x.place(), 6);
        Check.write(x, "out ;");
        CHECK.due("another text is there", x.place(), 6);
        x.table(1);
        x.insert(0, 1, 1, 1);
        x.delete(0, 0, 1);
        x.key(0, 0);
        x.run(0);
        x.sources(0);
        x.alike(0, 0);
        CHECK.due("other calls were made", x.place(), 6);
        x.forget();
        CHECK.due("the questions are forgotten", x.place(), 6);
        CHECK.due("it was asked for before", x.place(), 6);
        CHECK.dueThrow("second call", Check.ARGUMENT, x::question);
        CHECK.due("the latest is another now", x.place(), 4);
    }

    private static void placeOfToken() {
        READ.wrong("|x", "   |x", "out 1 of A x   |x", "out 1   |;of A x", "out 1 of A x,A y,A   |x", "out|, 1",
            "out 1 of A x where 1   |> 1", BLOCK + "+" + BLOCK + " - out 1,|of A x", "out 12|;", "out 1 of A x|;",
            "out 1,|2222,3333 of A x", "out 1 of A x |; ;", "out 1 of A x where x.0=1 and |;");
        READ.place(" ".repeat(199) + ";", 199);
        READ.place(";" + " ".repeat(199), 0);
        READ.place("out 1 of A x" + " ".repeat(187) + ";", 199);
    }

    /** Every start of a question that is none itself ends too early, and so it does with blanks behind it. */
    private static void endsTooEarly() {
        String[] tokens = ("set out x . 0 , - 1 , 22 of A x , B y , A z , B w where x . 0 = y . 0 and - 1 < 2"
            + " and x . 2 = 3 ^ out 1 , 2 , 3 of A x - set out 1 , y . 1 , 3 of B y").split(" ");
        StringBuilder text = new StringBuilder();
        for (String token : tokens) {
            boolean whole = isWhole(text.toString());
            READ.place(text.toString(), whole ? -1 : text.length());
            READ.place(text + "  ", whole ? -1 : text.length() + 2);
            text.append(text.length() == 0 ? "" : " ").append(token);
        }
        READ.good(text.toString());
        READ.place("", 0);
        READ.place(" ".repeat(200), 200);
        READ.place("out" + " ".repeat(197), 200);
    }

    /** What stands there is a whole block: it ends with a source's name, or with a condition. */
    private static boolean isWhole(String text) {
        return text.matches(".* of .*[A-D] [a-z]") || text.matches(".* where .*[=<] (- )?([a-z] [.] )?[0-9]+");
    }

    private static void behindABlock() {
        String wrong = "out z.0 of A x";
        READ.place(wrong, 0);
        READ.place(wrong + "   ", 0);
        for (String sign : new String[] {"+", "-", "^"}) {
            READ.place(wrong + sign, 0);
            READ.place(wrong + " " + sign + " " + BLOCK, 0);
            READ.place(wrong + sign + ";", 0);
            READ.place(wrong + sign + sign, 0);
            READ.place(wrong + sign + "out", 0);
            READ.place(BLOCK + sign + wrong, 13);
            READ.place(BLOCK + sign + BLOCK + sign + wrong + sign + BLOCK, 26);
            READ.place(wrong + " where 1=1" + sign, 0);
        }
        READ.wrong(wrong + "|;", wrong + " |out", wrong + " |set", wrong + " |and 1=1", wrong + "|=1", wrong + " |A y",
            wrong + "|.0", wrong + " |1234", wrong + ",|", wrong + ",|;", wrong + ",A y,A w,A v|,A u",
            wrong + " where|", wrong + " where |;", wrong + " where 1|", wrong + " where 1=|", wrong + " where 1=1 |;",
            wrong + " where 1=1 and|", wrong + " where 1=1 |1", "out z.0 of|", "out z.0 of A|",
            "out z.0 of A |+" + BLOCK, "out z.0|", "out z.0 |+" + BLOCK, BLOCK + "+" + wrong + " |out",
            BLOCK + "+" + wrong + ",|");
    }

    private static void nameOfNoSource() {
        READ.place("out y.0 of A x", 0);
        READ.place("out x.0,y.0 of A x", 0);
        READ.place("out x.0,1,y.0 of A x", 0);
        READ.place("out x.0,x.1,x.2 of A x", -1);
        READ.place("out w.0 of A x,A y,A z", 0);
        READ.place("out w.0 of A x,A y,A z,A w", -1);
        String five = "out x.0 of A x where x.0=x.0 and x.0<x.1 and x.0=1 and 1<x.1 and 1=1";
        READ.place(five + " and x.0=x.2", -1);
        READ.place(five + " and x.0=y.2", 0);
        READ.place(five + " and y.0=x.2", 0);
        READ.place("out x.0 of A x where y.0=1", 0);
        READ.place("out x.0 of A x where 1<y.0", 0);
        READ.place("out y.0 of A x - out y.0 of A y", 0);
        READ.place("out y.0 of A y - out y.0 of A x", 17);
        READ.place("out y.0 of A y-out y.0 of A y^out y.0 of A x", 30);
        READ.place("out y.0 of A y-out x.0 of A y^out z.0 of A x", 15);
    }

    private static void columnOfNoTable() {
        READ.place("out x.2 of A x", -1);
        READ.place("out x.3 of A x", 0);
        READ.place("out x.1 of B x", -1);
        READ.place("out x.2 of B x", 0);
        READ.place("out 1,1,x.2 of B x", 0);
        READ.place("out 1 of A x,B y where x.2=y.1", -1);
        READ.place("out 1 of A x,B y where x.1=y.2", 0);
        READ.place("out 1 of A x,B y where y.2=x.1", 0);
        READ.place("out 1 of A x,B y where 1=1 and 1=1 and 1=1 and 1=1 and 1=1 and y.0<x.3", 0);
        READ.place("out 1 of B x+out x.2 of A x", -1);
        READ.place("out 1 of A x+out x.2 of B x", 13);
        READ.place("out 1 of A x+out 1 of A x+out x.2 of B x", 26);
        READ.place("out x.999 of A x", 0);
    }

    private static void otherOutputs() {
        READ.place("out 1,2 of A x+out 1,2 of A x", -1);
        READ.place("out 1,2 of A x+out 1 of A x", 15);
        READ.place("out 1,2 of A x+out 1,2,3 of A x", 15);
        READ.place("out 1,2 of A x+out 1,2 of A x-out 1 of A x", 30);
        READ.place("out 1,2 of A x+out 1,2 of A x-out 1,2,3 of A x", 30);
        READ.place("out 1,2 of A x+out 1 of A x-out 1 of A x", 15);
        READ.place("out 1 of A x+out 1,2 of A x;", 27);
        READ.place("out 1 of A x+out 1,2 of A x+;", 13);
        READ.place("out 1 of A x+out 1,2 of A x,", 28);
        READ.place("out 1 of A x+out 1 of A x^out 1,2 of A x-", 26);
        READ.place("out 1 of A x+out 1 of A x^out 1 of A x-", 38);
        READ.place("out 1 of A x+out 1,2", 20);
    }

    private static void firstTokenOfBlock() {
        READ.place("out y.0 of A x", 0);
        READ.place("set out y.0 of A x", 0);
        READ.place("   out y.0 of A x", 3);
        READ.place("   set   out y.0 of A x", 3);
        READ.place(BLOCK + "   +   out y.0 of A x", 19);
        READ.place(BLOCK + "   +   set out y.0 of A x", 19);
        READ.place(BLOCK + "-" + BLOCK + " ^ set out x.0,x.1 of A x  ", 28);
    }

    private static void placeOfAQuestion() {
        BagPlanner x = Check.withTables(1);
        CHECK.dueThrow("none", Check.ARGUMENT, x::question);
        CHECK.due("its place", x.place(), 0);
        Check.ask(x, BLOCK);
        CHECK.due("place of one", x.place(), -1);
        Check.write(x, ";");
        CHECK.due("place before the next call", x.place(), -1);
        x.forget();
        CHECK.due("place of a forgotten one", x.place(), -1);
    }

    private static void placeWithoutCall() {
        CHECK.due("of a new object", new BagPlanner().place(), -1);
        BagPlanner x = Check.withTables(1);
        Check.write(x, ";");
        CHECK.due("with a text that is none", x.place(), -1);
        CHECK.dueThrow("run", Check.ARGUMENT, () -> x.run(0));
        CHECK.due("after another call's throw", x.place(), -1);
    }

    private static void allForgotten() {
        for (int count = 0; count <= 4; count++) {
            BagPlanner x = withQuestions(count);
            x.forget();
            for (int q = 0; q < 5; q++) {
                int wanted = q;
                CHECK.dueThrow("run " + q + " of " + count, Check.ARGUMENT, () -> x.run(wanted));
                CHECK.dueThrow("sources " + q + " of " + count, Check.ARGUMENT, () -> x.sources(wanted));
                CHECK.dueThrow("alike " + q + " of " + count, Check.ARGUMENT, () -> x.alike(wanted, wanted));
            }
            CHECK.due("the next is the first again", Check.ask(x, "out 9 of A x"), 0);
            CHECK.due("its answer", answerOf(x, 0), "9*1");
            CHECK.dueThrow("the second is forgotten still", Check.ARGUMENT, () -> x.run(1));
        }
        BagPlanner x = withQuestions(4);
        x.forget();
        for (int q = 0; q < 4; q++) {
            CHECK.due("room for four again", Check.ask(x, BLOCK), q);
        }
    }

    private static void howManyForgotten() {
        for (int count = 0; count <= 4; count++) {
            BagPlanner x = withQuestions(count);
            CHECK.due("forget", x.forget(), count);
            CHECK.due("forget again", x.forget(), 0);
        }
        BagPlanner x = withQuestions(4);
        Check.write(x, BLOCK);
        CHECK.dueThrow("a fifth", Check.STATE, x::question);
        CHECK.due("a refused one does not count", x.forget(), 4);
    }
}
