/** Promises 11 to 14: run, row, times, total. */
public final class AnswerTest {
    private static final Check CHECK = new Check();

    public static void main(String[] args) {
        waysOfABlock();
        conditions();
        sets();
        signs();
        order();
        emptyTables();
        sizeOfABlock();
        sizeOfASum();
        readingAnswers();
        latestAnswer();
        CHECK.end();
    }

    private static BagPlanner sample() {
        BagPlanner x = Check.withTables(2, 3, 1);
        x.insert(0, 1, 10, 0);
        x.insert(0, 2, 20, 0);
        x.insert(0, 2, 20, 0);
        x.insert(1, 1, 2, 3);
        x.insert(1, 2, 1, -4);
        return x;
    }

    private static void answerDue(BagPlanner x, String text, String want) {
        x.forget();
        int q = Check.ask(x, text);
        int different = x.run(q);
        CHECK.due(text, Check.answer(x), want);
        int total = 0;
        for (int k = 0; k < different; k++) {
            total += x.times(k);
        }
        CHECK.due("different rows of " + text, different, want.isEmpty() ? 0 : want.split(" ").length);
        CHECK.due("total of " + text, x.total(), total);
    }

    private static void waysOfABlock() {
        BagPlanner x = sample();
        answerDue(x, "out x.1 of A x", "10*1 20*2");
        answerDue(x, "out x.0 of A x,B y", "1*2 2*4");
        answerDue(x, "out y.2 of A x,B y", "-4*3 3*3");
        answerDue(x, "out 7 of A x,B y,A z,B w", "7*36");
        answerDue(x, "out x.0,z.0 of A x,A z", "1,1*1 1,2*2 2,1*2 2,2*4");
        answerDue(x, "out -999,x.0,007 of A x", "-999,1,7*1 -999,2,7*2");
        answerDue(x, "out x.1,x.1 of A x", "10,10*1 20,20*2");
    }

    private static void conditions() {
        BagPlanner x = sample();
        answerDue(x, "out x.1 of A x where x.0=2", "20*2");
        answerDue(x, "out x.1 of A x where x.0<2", "10*1");
        answerDue(x, "out x.1 of A x where 1<x.0", "20*2");
        answerDue(x, "out x.1 of A x where x.0<x.0", "");
        answerDue(x, "out x.1 of A x where 3<2", "");
        answerDue(x, "out x.1 of A x where 2<2", "");
        answerDue(x, "out x.1 of A x where 1<2 and 2=2 and -1<0", "10*1 20*2");
        answerDue(x, "out x.1,y.2 of A x,B y where x.0=y.0", "10,3*1 20,-4*2");
        answerDue(x, "out x.1,y.2 of A x,B y where y.0=x.0 and y.1<y.2", "10,3*1");
        answerDue(x, "out y.0 of A x,B y where y.2<-3", "2*3");
        answerDue(x, "out z.0 of B z,A x,A y where x.0=z.0 and y.1<x.1 and z.1<z.0", "2*2");
        answerDue(x, "out 5 of A x,A y where 1=2", "");
        answerDue(x, "out 5 of A x,A y where y.0=1", "5*3");
    }

    private static void sets() {
        BagPlanner x = sample();
        answerDue(x, "set out x.1 of A x", "10*1 20*1");
        answerDue(x, "set out 1 of A x,A y", "1*1");
        answerDue(x, "set out x.0 of A x + set out x.0 of A x", "1*2 2*2");
        answerDue(x, "set out x.0 of A x + out x.0 of A x", "1*2 2*3");
        answerDue(x, "out x.0 of A x + set out x.0 of A x", "1*2 2*3");
    }

    private static void signs() {
        BagPlanner x = sample();
        answerDue(x, "out x.0 of A x - out y.0 of B y", "2*1");
        answerDue(x, "out y.0 of B y - out x.0 of A x", "");
        answerDue(x, "out x.0 of A x ^ out y.0 of B y", "1*1 2*1");
        answerDue(x, "out y.2 of B y ^ out x.0 of A x", "");
        answerDue(x, "out y.2 of B y + out x.0 of A x", "-4*1 1*1 2*2 3*1");
        answerDue(x, "out x.0 of A x - out 2 of B x", "1*1");
        answerDue(x, "out x.0 of A x - out 2 of B x + out 2 of B x", "1*1 2*2");
        answerDue(x, "out x.0 of A x + out 2 of B x - out 2 of B x", "1*1 2*2");
        answerDue(x, "out x.0 of A x ^ out 2 of C x + out 3 of B x", "3*2");
        answerDue(x, "out 3 of B x + out x.0 of A x ^ out 3 of A x", "3*2");
        answerDue(x, "out x.0 of A x - out 2 of A x ^ out 1 of B x", "1*1");
        answerDue(x, "out 1 of B x - out 1 of A x + out 1 of B x", "1*2");
    }

    private static void order() {
        BagPlanner x = Check.withTables(3);
        int[] some = {Integer.MAX_VALUE, 0, -1, Integer.MIN_VALUE};
        for (int value : some) {
            x.insert(0, value, 1, value);
        }
        x.insert(0, 0, 0, 5);
        x.insert(0, 0, 1, -7);
        answerDue(x, "out x.0 of A x", "-2147483648*1 -1*1 0*3 2147483647*1");
        answerDue(x, "out x.0,x.1,x.2 of A x",
            "-2147483648,1,-2147483648*1 -1,1,-1*1 0,0,5*1 0,1,-7*1 0,1,0*1 2147483647,1,2147483647*1");
        answerDue(x, "out x.1,x.2 of A x where x.0=0", "0,5*1 1,-7*1 1,0*1");
        answerDue(x, "out x.0 of A x where x.0<0", "-2147483648*1 -1*1");
        answerDue(x, "out x.0,y.0 of A x,A y where x.0<y.0 and -1<x.0", "0,2147483647*3");
    }

    private static void emptyTables() {
        BagPlanner x = sample();
        answerDue(x, "out x.0 of C x", "");
        answerDue(x, "out x.0 of A x,C y", "");
        answerDue(x, "out x.0 of C y,A x where x.0=1", "");
        answerDue(x, "out 1 of C x", "");
        answerDue(x, "out y.0 of C y + out x.0 of A x", "1*1 2*2");
    }

    /** A table of 8 different rows and one of 7 with two alike. */
    private static BagPlanner large() {
        BagPlanner x = Check.withTables(1, 2);
        for (int i = 0; i < 8; i++) {
            x.insert(0, i, 0, 0);
            x.insert(1, i, i / 2, 0);
        }
        return x;
    }

    private static void sizeOfABlock() {
        BagPlanner x = large();
        Check.ask(x, "out x.0,y.0 of A x,A y");
        Check.ask(x, "set out x.0,y.0,z.0 of A x,A y,A z where z.0<1");
        Check.ask(x, "out x.0,y.0,z.0 of A x,A y,A z where z.0<2");
        Check.ask(x, "out x.0,y.0 of A x,A y,A z,A w");
        CHECK.due("64 are not too many", x.run(0), 64);
        CHECK.due("64 of a set", x.run(1), 64);
        CHECK.dueThrow("128 are", Check.UNSUPPORTED, () -> x.run(2));
        CHECK.due("the answer before stays", x.total(), 64);
        CHECK.due("its width, too", x.row(63, 2), 0);
        CHECK.due("4096 rows, 64 different", x.run(3), 64);
        CHECK.due("in all", x.total(), 4096);
        CHECK.due("each", x.times(63), 64);
        CHECK.dueThrow("128 again", Check.UNSUPPORTED, () -> x.run(2));
        CHECK.due("the answer before stays again", x.total(), 4096);
        CHECK.dueThrow("no such question", Check.ARGUMENT, () -> x.run(4));
        CHECK.dueThrow("no such question", Check.ARGUMENT, () -> x.run(-1));
        CHECK.due("it still stays", x.times(0), 64);
    }

    private static void sizeOfASum() {
        BagPlanner x = large();
        String square = "out x.0,y.0 of A x,A y";
        Check.ask(x, square + " + out 7,8 of A x");
        Check.ask(x, square + " + out 7,7 of A x");
        Check.ask(x, square + " + out 7,8 of A x - out 7,8 of A x");
        Check.ask(x, square + " - out 7,7 of A x + out 9,9 of A x");
        CHECK.dueThrow("65 by +", Check.UNSUPPORTED, () -> x.run(0));
        CHECK.due("no answer yet", x.total(), 0);
        CHECK.due("64 by +", x.run(1), 64);
        CHECK.due("one nine times", x.times(63), 9);
        CHECK.dueThrow("65 on the way", Check.UNSUPPORTED, () -> x.run(2));
        CHECK.due("never more than 64", x.run(3), 64);
        CHECK.due("the new one", x.row(63, 0), 9);
        x.forget();
        Check.ask(x, "out 1,1,1 of A x ^ out x.0,y.0,z.0 of A x,A y,A z");
        Check.ask(x, "out 1,1,1 of A x - out 2,2,2 of A x + out x.0,y.0,z.0 of A x,A y,A z");
        CHECK.dueThrow("a right block of 512", Check.UNSUPPORTED, () -> x.run(0));
        CHECK.dueThrow("a last block of 512", Check.UNSUPPORTED, () -> x.run(1));
        CHECK.due("the answer stays", x.row(63, 1), 9);
    }

    private static void readingAnswers() {
        BagPlanner x = sample();
        Check.ask(x, "out x.0,x.1 of A x");
        x.run(0);
        CHECK.due("row(0, 0)", x.row(0, 0), 1);
        CHECK.due("row(1, 1)", x.row(1, 1), 20);
        CHECK.dueThrow("row(2, 0)", Check.INDEX, () -> x.row(2, 0));
        CHECK.dueThrow("row(-1, 0)", Check.INDEX, () -> x.row(-1, 0));
        CHECK.dueThrow("row(0, 2)", Check.INDEX, () -> x.row(0, 2));
        CHECK.dueThrow("row(0, -1)", Check.INDEX, () -> x.row(0, -1));
        CHECK.dueThrow("row of extremes", Check.INDEX, () -> x.row(Integer.MAX_VALUE, Integer.MIN_VALUE));
        CHECK.dueThrow("times(2)", Check.INDEX, () -> x.times(2));
        CHECK.dueThrow("times(-1)", Check.INDEX, () -> x.times(-1));
        CHECK.due("times(1)", x.times(1), 2);
        CHECK.due("total", x.total(), 3);
    }

    private static void latestAnswer() {
        BagPlanner x = sample();
        Check.ask(x, "out x.0,x.1 of A x");
        Check.ask(x, "out x.0 of C x");
        x.run(0);
        x.insert(0, 3, 30, 0);
        x.delete(0, 0, 1);
        CHECK.due("an answer is as of its run", Check.answer(x), "1,10*1 2,20*2");
        x.run(0);
        CHECK.due("a new run sees the rows of now", Check.answer(x), "2,20*2 3,30*1");
        CHECK.due("an empty one", x.run(1), 0);
        CHECK.due("is the latest answer, too", x.total(), 0);
        CHECK.dueThrow("and has no row", Check.INDEX, () -> x.row(0, 0));
    }
}
