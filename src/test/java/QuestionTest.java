/** Promises 8 to 10: question, place, forget. */
public final class QuestionTest {
    private static final Check CHECK = new Check();

    public static void main(String[] args) {
        numbersOfQuestions();
        goodTexts();
        wrongTokens();
        tooEarly();
        tooMany();
        wrongBlocks();
        whichComesFirst();
        noTables();
        forgetQuestions();
        CHECK.end();
    }

    private static void numbersOfQuestions() {
        BagPlanner x = Check.withTables(1);
        for (int i = 0; i < 4; i++) {
            CHECK.due("question " + i, Check.ask(x, "out x.0 of A x"), i);
            CHECK.due("text after question " + i, x.wipe(), 0);
        }
        Check.write(x, "out x.0 of A x");
        CHECK.dueThrow("a fifth", Check.STATE, x::question);
        CHECK.due("place of a fifth", x.place(), -1);
        Check.write(x, " ;");
        CHECK.dueThrow("a fifth that is none: the argument is named first", Check.ARGUMENT, x::question);
        CHECK.due("place of that", x.place(), 15);
        CHECK.due("the text stayed", x.wipe(), 16);
        CHECK.due("place stays", x.place(), 15);
        Check.write(x, "out 1 of A y");
        CHECK.dueThrow("a fifth again", Check.STATE, x::question);
        CHECK.due("place of a fifth again", x.place(), -1);
        x.insert(0, 9, 0, 0);
        x.run(3);
        CHECK.due("the fourth is as it was", Check.answer(x), "9*1");
        CHECK.due("forget", x.forget(), 4);
        CHECK.due("the text stayed and is read now", x.question(), 0);
        x.run(0);
        CHECK.due("its answer", Check.answer(x), "1*1");
    }

    private static void goodTexts() {
        String[] texts = {
            "out x.0 of A x",
            "   out   x . 0   of   A   x   ",
            "set out x.0,x.1,x.2 of A x",
            "out-1,- 999,0of A x",
            "out 007,-0,x.002of A x",
            "out x.0 of A x,A y,B z,B w",
            "out x.0 of Ax,By where 1=1",
            "out o.0 of A o,A f where o.0=f.0and 1<2and o.1<-3and-4<f.2and 5=-5and o.2=f.2",
            "out x.0 of A x+out x.0 of B x",
            "out x.0 of A x-out-1 of B x^set out y.1 of B y",
            "out x.0 of A x where x.0=1-out 1 of A x",
            "out x.0 of A x where 1=x.0 ^ set out 1 of A x where 2<3",
        };
        for (String text : texts) {
            CHECK.due("place of " + text, placeOf(text), -1);
        }
    }

    private static void wrongTokens() {
        placeDue("x", 0);
        placeDue("  of", 2);
        placeDue("outx.0 of A x", 0);
        placeDue("seto", 0);
        placeDue("set set out 1 of A x", 4);
        placeDue("OUT 1 of A x", 0);
        placeDue("out of A x", 4);
        placeDue("out , 1 of A x", 4);
        placeDue("out 1, of A x", 7);
        placeDue("out 1 2 of A x", 6);
        placeDue("out 1; of A x", 5);
        placeDue("out 1234 of A x", 4);
        placeDue("out 0001 of A x", 4);
        placeDue("out x.1234 of A x", 6);
        placeDue("out xx.0 of A xx", 4);
        placeDue("out out.0 of A x", 4);
        placeDue("out A.0 of A x", 4);
        placeDue("out x,0 of A x", 5);
        placeDue("out x.y of A x", 6);
        placeDue("out x.-0 of A x", 6);
        placeDue("out x.0.1 of A x", 7);
        placeDue("out - - 1 of A x", 6);
        placeDue("out - x.0 of A x", 6);
        placeDue("out +1 of A x", 4);
        placeDue("out 1 where 1=1", 6);
        placeDue("out 1 of x", 9);
        placeDue("out 1 of C x", 9);
        placeDue("out 1 of Z x", 9);
        placeDue("out 1 of A B", 11);
        placeDue("out 1 of A 1", 11);
        placeDue("out 1 of A xy", 11);
        placeDue("out 1 of A of", 11);
        placeDue("out 1 of A x A y", 13);
        placeDue("out 1 of A x,B x", 15);
        placeDue("out 1 of A x,A y,A x", 19);
        placeDue("out 1 of A x,where 1=1", 13);
        placeDue("out 1 of A x where", 18);
        placeDue("out 1 of A x where where", 19);
        placeDue("out 1 of A x where 1", 20);
        placeDue("out 1 of A x where 1 and 2", 21);
        placeDue("out 1 of A x where 1>2", 20);
        placeDue("out 1 of A x where 1<=2", 21);
        placeDue("out 1 of A x where 1==2", 21);
        placeDue("out 1 of A x where 1=2,2=2", 22);
        placeDue("out 1 of A x where 1=2 or 2=2", 23);
        placeDue("out 1 of A x and 2=2", 13);
        placeDue("out 1 of A x out 1 of A x", 13);
        placeDue("out 1 of A x + + out 1 of A x", 15);
        placeDue("out 1 of A x + 1", 15);
        placeDue("out 1 of A x * out 1 of A x", 13);
        placeDue("out 1 of A x ~", 13);
        placeDue("+ out 1 of A x", 0);
        placeDue("out 1 of A x where x.0=1-1", 25);
        placeDue(",".repeat(200), 0);
        placeDue("out 1 of A x" + "+".repeat(188), 13);
    }

    private static void tooEarly() {
        String whole = "set out x.0,-1 of A x,B y where x.0=y.0 and 1<-2";
        for (String start : new String[] {"", "set", "set out", "set out x", "set out x.", "set out x.0",
            "set out x.0,", "set out x.0,-", "set out x.0,-1", "set out x.0,-1 of", "set out x.0,-1 of A",
            "set out x.0,-1 of A x,", "set out x.0,-1 of A x,B", "set out x.0,-1 of A x,B y where",
            "set out x.0,-1 of A x,B y where x.0", "set out x.0,-1 of A x,B y where x.0=",
            "set out x.0,-1 of A x,B y where x.0=y.0 and", "set out x.0,-1 of A x,B y where x.0=y.0 and 1<-"}) {
            CHECK.due("it is a start", whole.startsWith(start), true);
            placeDue(start, start.length());
            placeDue(start + "   ", start.length() + 3);
        }
        placeDue(whole, -1);
        placeDue(whole + " + ", whole.length() + 3);
        placeDue(whole + " ^ set", whole.length() + 6);
    }

    private static void tooMany() {
        placeDue("out 1,2,3 of A x", -1);
        placeDue("out 1,2,3,4 of A x", 9);
        placeDue("out 1 of A x,A y,A z,A w", -1);
        placeDue("out 1 of A x,A y,A z,A w,A v", 24);
        String six = "out 1 of A x where 1=1 and 1=1 and 1=1 and 1=1 and 1=1 and 1=1";
        placeDue(six, -1);
        placeDue(six + " and 1=1", 63);
        String three = "out 1 of A x+out 1 of A x-out 1 of A x";
        placeDue(three, -1);
        placeDue(three + "^out 1 of A x", 38);
        placeDue(three + "^", 38);
    }

    private static void wrongBlocks() {
        placeDue("out z.0 of A x", 0);
        placeDue("  set out z.0 of A x", 2);
        placeDue("out x.0,z.0 of A x", 0);
        placeDue("out x.3 of A x", 0);
        placeDue("out x.2 of A x", -1);
        placeDue("out x.2 of B x", 0);
        placeDue("out x.1 of B x", -1);
        placeDue("out x.999 of A x", 0);
        placeDue("out y.1 of A x,B y", -1);
        placeDue("out y.2 of A x,B y", 0);
        placeDue("out x.0 of A x where z.0=1", 0);
        placeDue("out x.0 of A x where 1=1 and 2<x.3", 0);
        placeDue("out x.0 of A x + out x.0 of B y", 17);
        placeDue("out x.0 of A x + set out y.2 of B y", 17);
        placeDue("out x.0 of A x + out x.0,x.1 of A x", 17);
        placeDue("out x.0,x.0 of A x + out x.0 of A x", 21);
        placeDue("out 1 of A x ^ out 1 of A x - out 1,2 of A x", 30);
        placeDue("out 1,2 of A x ^ out 2,1 of A x - out 1,2 of A x", -1);
    }

    private static void whichComesFirst() {
        placeDue("out z.0 of A x + ;", 0);
        placeDue("out z.0 of A x ^", 0);
        placeDue("out z.0 of A x - out", 0);
        placeDue("out z.0 of A x ;", 15);
        placeDue("out z.0 of A x 1234", 15);
        placeDue("out z.0 of A x where", 20);
        placeDue("out z.0 of A x where 1=1 and", 28);
        placeDue("out z.0 of A x,", 15);
        placeDue("out z.0 of A x,A y,A w,A v,A u", 26);
        placeDue("out x.0 of A + out z.0 of A x", 13);
        placeDue("out x.0 of A x + out z.0 of A x, out", 33);
        placeDue("out x.0 of A x + out z.0 of A x + out", 17);
        placeDue("out z.0 of A x + out y.0 of A x", 0);
        placeDue("out 1 of A x+out 1 of A x-out z.1 of A x^out 1 of A x", 26);
        placeDue("out 1 of A x+out 1 of A x-out 1,2 of A x^", 26);
    }

    private static void noTables() {
        BagPlanner x = new BagPlanner();
        Check.write(x, "out 1 of A x");
        CHECK.dueThrow("no table yet", Check.ARGUMENT, x::question);
        CHECK.due("place at the capital", x.place(), 9);
        x.table(1);
        CHECK.due("the text stayed, the table came", x.question(), 0);
        CHECK.due("place of a question", x.place(), -1);
        Check.write(x, "out x.0 of D x");
        x.table(1);
        x.table(1);
        CHECK.dueThrow("no table D yet", Check.ARGUMENT, x::question);
        x.table(1);
        CHECK.due("table D", x.question(), 1);
    }

    private static void forgetQuestions() {
        BagPlanner x = Check.withTables(1);
        x.insert(0, 3, 0, 0);
        CHECK.due("forget none", x.forget(), 0);
        Check.ask(x, "out x.0 of A x");
        Check.ask(x, "out 5 of A x + out 6 of A x");
        x.run(0);
        Check.write(x, "out");
        CHECK.due("forget two", x.forget(), 2);
        CHECK.due("forget again", x.forget(), 0);
        CHECK.dueThrow("run a forgotten one", Check.ARGUMENT, () -> x.run(0));
        CHECK.due("the answer stays", Check.answer(x), "3*1");
        CHECK.due("the text stays", Check.ask(x, " 1 of A x"), 0);
        CHECK.due("an old block does not come back", x.sources(0), 1);
        CHECK.dueThrow("the second is still forgotten", Check.ARGUMENT, () -> x.run(1));
    }

    private static void placeDue(String text, int want) {
        CHECK.due("place of '" + text + "'", placeOf(text), want);
    }

    /** Place after reading a text with tables A of 3 columns and B of 2. */
    private static int placeOf(String text) {
        BagPlanner x = Check.withTables(3, 2);
        Check.write(x, text);
        String outcome = Check.outcome(x::question);
        boolean read = x.place() == -1;
        CHECK.due("question of '" + text + "'", outcome, read ? "0" : "throws.IllegalArgumentException");
        CHECK.due("text after '" + text + "'", x.wipe(), read ? 0 : text.length());
        return x.place();
    }
}
