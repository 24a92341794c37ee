/** Promises 15 and 16: alike and sources. A has 2 columns, B 3 and C 1; the keys are as each test says. */
public final class AlikeTest {
    private static final Check CHECK = new Check();
    private static final Blocks PLAIN = new Blocks(CHECK);

    public static void main(String[] args) {
        wrongCalls();
        setsAndOutputs();
        pairings();
        classes();
        numbers();
        less();
        emptyBlocks();
        keys();
        keysOneAfterTheOther();
        CHECK.end();
    }

    private static void wrongCalls() {
        BagPlanner x = PLAIN.planner();
        Check.ask(x, "out x.0 of A x");
        Check.ask(x, "out x.0 of A x + out x.0 of A x");
        CHECK.dueThrow("alike(0, 2)", Check.ARGUMENT, () -> x.alike(0, 2));
        CHECK.dueThrow("alike(2, 0)", Check.ARGUMENT, () -> x.alike(2, 0));
        CHECK.dueThrow("alike(-1, 0)", Check.ARGUMENT, () -> x.alike(-1, 0));
        CHECK.dueThrow("alike(0, -1)", Check.ARGUMENT, () -> x.alike(0, -1));
        CHECK.dueThrow("alike(1, 2): the argument is named first", Check.ARGUMENT, () -> x.alike(1, 2));
        CHECK.dueThrow("alike(2, 1): the argument is named first", Check.ARGUMENT, () -> x.alike(2, 1));
        CHECK.dueThrow("alike(0, 1)", Check.UNSUPPORTED, () -> x.alike(0, 1));
        CHECK.dueThrow("alike(1, 0)", Check.UNSUPPORTED, () -> x.alike(1, 0));
        CHECK.dueThrow("alike(1, 1)", Check.UNSUPPORTED, () -> x.alike(1, 1));
        CHECK.dueThrow("sources(2)", Check.ARGUMENT, () -> x.sources(2));
        CHECK.dueThrow("sources(-1)", Check.ARGUMENT, () -> x.sources(-1));
        CHECK.dueThrow("sources(1)", Check.UNSUPPORTED, () -> x.sources(1));
        CHECK.due("sources(0)", x.sources(0), 1);
        CHECK.due("alike(0, 0)", x.alike(0, 0), true);
    }

    private static void setsAndOutputs() {
        PLAIN.alike("out x.0 of A x", "out y.0 of A y");
        PLAIN.alike("set out x.0 of A x", "set out y.0 of A y");
        PLAIN.notAlike("set out x.0 of A x", "out y.0 of A y");
        PLAIN.notAlike("out x.0 of A x", "out y.1 of A y");
        PLAIN.notAlike("out x.0 of A x", "out y.0,y.0 of A y");
        PLAIN.notAlike("out x.0,x.1 of A x", "out y.1,y.0 of A y");
        PLAIN.alike("out x.0,x.1 of A x where x.0=x.1", "out y.1,y.0 of A y where y.1=y.0");
        PLAIN.notAlike("out x.0 of A x", "out 1 of A x");
        PLAIN.alike("out 1 of A x", "out 1 of A x");
        PLAIN.notAlike("out 1 of A x", "out 2 of A x");
        PLAIN.alike("out 007,-0 of A x", "out 7,0 of A x");
    }

    private static void pairings() {
        PLAIN.alike("out x.0 of A x,B y", "out x.0 of B y,A x");
        PLAIN.alike("out x.0 of A x,A y", "out y.0 of A x,A y");
        PLAIN.notAlike("out x.0 of A x", "out x.0 of A x,A y");
        PLAIN.notAlike("out x.0 of A x,A y", "out x.0 of A x,B y");
        PLAIN.notAlike("out x.0 of A x,A y", "out x.0 of A x,A y where x.0=y.0 and x.1=y.1");
        PLAIN.notAlike("out 1 of C x,C y,C z where x.0=y.0", "out 1 of C x,C y,C z where x.0=y.0 and y.0=z.0");
        PLAIN.notAlike("out 1 of C x,C y where x.0=1 and y.0=1", "out 1 of C x,C y where x.0=1");
        PLAIN.notAlike("set out x.0 of A x", "set out x.0 of A x,A y");
        PLAIN.alike("out x.0,y.0 of A x,A y", "out y.0,x.0 of A x,A y");
        PLAIN.notAlike("out x.0,y.1 of A x,A y", "out x.1,y.0 of A x,A y");
        PLAIN.alike("out x.0 of A x,A y,A z,A w where x.0=y.0 and y.1=z.0 and z.1=w.0",
            "out d.0 of A a,A b,A c,A d where b.0=c.1 and b.1=a.0 and c.0=d.0");
        PLAIN.notAlike("out x.0 of A x,A y,A z,A w where x.0=y.0 and y.1=z.0 and z.1=w.0",
            "out d.0 of A a,A b,A c,A d where b.0=c.1 and b.1=a.0 and c.0=d.1");
        PLAIN.alike("out x.0 of A x,A y,A z,A w where x.1=y.0 and y.1=z.0 and z.1=w.0",
            "out d.0 of A a,A b,A c,A d where b.0=c.1 and b.1=a.0 and d.1=c.0");
        PLAIN.alike("out 1 of A x,A y,A z where x.1=y.0 and y.1=z.0 and z.1=x.0",
            "out 1 of A a,A b,A c where b.1=a.0 and a.1=c.0 and b.0=c.1");
        PLAIN.notAlike("out 1 of A x,A y,A z where x.1=y.0 and y.1=z.0 and z.1=x.0",
            "out 1 of A a,A b,A c where b.1=a.0 and a.1=c.0 and b.0=c.0");
    }

    private static void classes() {
        PLAIN.alike("out x.0 of B x where x.0=x.1 and x.1=x.2", "out x.2 of B x where x.2=x.0 and x.0=x.1");
        PLAIN.notAlike("out x.0 of B x where x.0=x.1", "out x.0 of B x where x.0=x.2");
        PLAIN.notAlike("out x.0 of B x where x.0=x.1", "out x.0 of B x");
        PLAIN.alike("out x.0 of B x where x.0=x.0", "out x.0 of B x");
        PLAIN.alike("out x.0 of B x where x.0=x.1 and x.0=x.1 and x.1=x.0", "out x.1 of B x where x.0=x.1");
        PLAIN.alike("out x.0 of A x,A y where x.0=y.0", "out y.0 of A x,A y where y.0=x.0");
        PLAIN.notAlike("out x.0 of A x,A y where x.0=y.0", "out y.1 of A x,A y where y.0=x.0");
        PLAIN.alike("out x.0 of A x,A y where x.0=y.1", "out x.1 of A x,A y where y.0=x.1");
        PLAIN.alike("out x.0 of A x,B y,C z where x.0=z.0 and y.1=z.0",
            "out z.0 of C z,B y,A x where x.0=y.1 and x.0=z.0");
    }

    private static void numbers() {
        PLAIN.alike("out x.0 of A x where x.0=5", "out 5 of A x where 5=x.0");
        PLAIN.notAlike("out x.0 of A x where x.0=5", "out 5 of A x where 5=x.1");
        PLAIN.notAlike("out x.0 of A x where x.0=5", "out x.0 of A x where x.0=6");
        PLAIN.notAlike("out x.0 of A x where x.0=5", "out x.0 of A x where x.0=-5");
        PLAIN.notAlike("out x.0 of A x where x.0=5", "out x.0 of A x");
        PLAIN.notAlike("out 5 of A x", "out 5 of A x where x.0=5");
        PLAIN.alike("out 5 of A x where 5=5", "out 5 of A x");
        PLAIN.alike("out x.0,x.1 of A x where x.0=5 and 5=x.1", "out x.1,5 of A x where x.0=x.1 and x.1=005");
        PLAIN.alike("out x.0 of A x where x.0=5 and x.1=5", "out x.0 of A x where x.0=5 and x.0=x.1");
        PLAIN.alike("out x.1 of A x,A y where x.0=1 and y.0=2", "out y.1 of A x,A y where x.0=2 and y.0=1");
        PLAIN.notAlike("out x.1 of A x,A y where x.0=1 and y.0=2", "out x.1 of A x,A y where x.0=2 and y.0=1");
        PLAIN.alike("out 5 of A x where 6=6", "out 5 of A x where 7=7");
        PLAIN.notAlike("out 5 of A x where x.0=999", "out 5 of A x where x.0=-999");
        String fifteen = "out 1,2,3 of A x where 4<5 and 6<7 and 8<9 and 10<11 and 12<13 and 14<15";
        PLAIN.alike(fifteen, "out 1,2,3 of A x");
        for (int number = -999; number <= 999; number += 50) {
            PLAIN.alike("out x.0 of A x where x.0=" + number, "out " + number + " of A x where x.0=" + number);
        }
    }

    private static void less() {
        PLAIN.notAlike("out x.0 of A x where x.0<x.1", "out x.0 of A x");
        PLAIN.notAlike("out x.0 of A x where x.0<x.1", "out x.0 of A x where x.1<x.0");
        PLAIN.alike("out x.0 of A x where x.0<x.1 and x.0<x.1", "out x.0 of A x where x.0<x.1");
        PLAIN.alike("out x.0 of A x where 1<x.0 and x.1<2", "out x.0 of A x where x.1<2 and 1<x.0");
        PLAIN.notAlike("out x.0 of A x where 1<x.0 and x.1<2", "out x.0 of A x where x.1<2 and x.1<2");
        PLAIN.notAlike("out x.0 of A x where 1<x.0", "out x.0 of A x where 2<x.0");
        PLAIN.notAlike("out x.0 of A x where 1<x.0", "out x.0 of A x where 1<x.0 and 0<x.0");
        PLAIN.alike("out x.0 of A x where 1<x.0", "out x.0 of A x where 1<x.0 and 2<3");
        PLAIN.alike("out x.0 of A x where x.0=1 and x.0<2", "out x.0 of A x where x.0=1");
        PLAIN.alike("out x.0 of A x where x.0=1 and x.1=2 and x.0<x.1", "out 1 of A x where x.0=1 and x.1=2");
        PLAIN.alike("out x.0 of A x where x.0=1 and x.0<x.1", "out x.0 of A x where x.0=1 and 1<x.1");
        PLAIN.notAlike("out x.0 of A x where x.0=1 and 0<x.1", "out x.0 of A x where x.0=1 and 1<x.1");
        PLAIN.notAlike("out x.0 of A x where x.0<3", "out x.0 of A x where 3<x.0");
        PLAIN.alike("out x.0 of A x,A y where x.0<y.0 and y.0=x.1", "out x.0 of A x,A y where x.0<x.1 and y.0=x.1");
        PLAIN.alike("out 1 of A x,A y,A z where x.0<y.0 and y.0<z.0",
            "out 1 of A x,A y,A z where z.0<x.0 and x.0<y.0");
        PLAIN.notAlike("out 1 of A x,A y,A z where x.0<y.0 and y.0<z.0",
            "out 1 of A x,A y,A z where x.0<y.0 and y.0<z.0 and x.0<z.0");
        PLAIN.notAlike("out 1 of A x,A y where x.0<y.0 and y.0<x.0", "out 1 of A x,A y where y.0<y.0");
    }

    private static void emptyBlocks() {
        String[] empty = {
            "out x.0 of A x where 1=2",
            "out x.0 of A x where x.0=1 and x.1=2 and x.0=x.1",
            "out x.0 of A x where x.0<x.0",
            "out 1 of B x where x.0=x.1 and x.1=x.2 and x.2<x.0",
            "out 1 of B x,C y where 3<2",
            "out 1 of B x,C y where 3<3",
            "out 1 of C y where y.0=-1 and 1<y.0",
            "out 1 of A y where y.0=5 and y.1=4 and y.0<y.1",
        };
        for (String text : empty) {
            PLAIN.sources(0, text);
            for (String other : empty) {
                PLAIN.alike(text, other);
            }
            PLAIN.notAlike(text, "set " + text);
            PLAIN.notAlike(text, text.replace("out", "out 1,"));
            PLAIN.notAlike(text, "out x.0 of A x");
        }
        PLAIN.sources(1, "out 1 of A y where y.0=4 and y.1=5 and y.0<y.1");
        PLAIN.sources(1, "out 1 of A x where 2<x.0 and x.0<1");
        PLAIN.sources(1, "out 1,2 of A x where 2=2 and x.0=3");
        PLAIN.sources(1, "out 1 of A x where -1<0 and -2<-1");
    }

    private static void keys() {
        String self = "out x.0 of A x,A y where x.1=y.1";
        PLAIN.sources(2, self);
        PLAIN.sources(2, "out x.0 of A x,A y where x.0=y.0 and x.1=y.1");
        PLAIN.notAlike(self, "out x.0 of A x");
        Blocks keyA1 = new Blocks(CHECK, "A1");
        keyA1.sources(1, self);
        keyA1.alike(self, "out x.0 of A x");
        keyA1.alike(self, "out y.0 of A x,A y where x.1=y.1");
        keyA1.alike("out x.0,y.0,y.1 of A x,A y where x.1=y.1", "out x.0,x.0,x.1 of A x");
        keyA1.sources(2, "out x.0 of A x,A y where x.0=y.0");
        keyA1.sources(2, "out x.0 of A x,A y where x.1=y.0");
        keyA1.sources(1, "out x.0 of A x,A y where x.1=y.0 and y.1=x.1");
        keyA1.sources(1, "out x.0 of A x,A y where x.1=3 and y.1=3");
        keyA1.sources(2, "out x.0 of A x,A y where x.1=3 and y.1=4");
        keyA1.sources(0, "out x.0 of A x,A y where x.1=y.1 and x.0<y.0");
        keyA1.sources(0, "out x.0 of A x,A y where x.1=y.1 and x.0=1 and y.0=2");
        keyA1.sources(2, "out x.0 of A x,A y,A z,A w where x.1=y.1 and z.1=w.1");
        keyA1.sources(1, "out x.0 of A x,A y,A z,A w where x.1=y.1 and z.1=w.1 and w.1=y.1");
        keyA1.sources(2, "out x.0 of A x,C y where x.1=y.0");
        Blocks keyB1 = new Blocks(CHECK, "B1");
        keyB1.sources(2, "out x.1 of B x,A y where x.1=y.1");
        Blocks keysB1A1 = new Blocks(CHECK, "B1", "A1");
        keysB1A1.sources(2, "out x.1 of B x,A y where x.1=y.1");
        Blocks keyC0 = new Blocks(CHECK, "C0");
        keyC0.sources(2, "out 1 of C x,C y");
        keyC0.sources(1, "out 1 of C x,C y,C z where x.0=y.0 and y.0=z.0");
        keyC0.alike("out 1 of C x,C y,A z where x.0=y.0 and z.0=y.0", "out 1 of A z,C x where z.0=x.0");
        BagPlanner x = PLAIN.planner("out x.0 of A x,A y where x.0=y.0");
        CHECK.due("before a key is declared", x.sources(0), 2);
        x.key(0, 0);
        CHECK.due("after it has been declared", x.sources(0), 1);
    }

    private static void keysOneAfterTheOther() {
        Blocks keysA0B0B1 = new Blocks(CHECK, "A0", "B0", "B1");
        keysA0B0B1.sources(2, "out x.1 of A x,A y,A z,A w where z.0=w.0 and x.1=z.0 and y.1=w.0 and x.0=y.0");
        keysA0B0B1.sources(2, "out 1 of A x,A y,A z,A w where z.0=x.1 and w.0=y.1 and x.0=y.0");
        keysA0B0B1.sources(2, "out 1 of A z,A w,A x,A y where z.0=x.1 and w.0=y.1 and x.0=y.0");
        keysA0B0B1.sources(2, "out 1 of A w,B p,A z,B q where w.0=p.2 and z.0=q.2 and p.1=q.1");
        keysA0B0B1.sources(4, "out 1 of A w,B p,A z,B q where w.0=p.2 and z.0=q.2 and p.1=q.0");
        keysA0B0B1.sources(1, "out 1 of B p,B q,B r where p.0=q.0 and q.1=r.1");
        keysA0B0B1.alike("out w.1 of A w,B p,A z,B q where w.0=p.2 and z.0=q.2 and p.1=q.1 and z.1<9",
            "out x.1 of A x,B y where y.2=x.0 and x.1<9");
        keysA0B0B1.notAlike("out w.1 of A w,B p,A z,B q where w.0=p.2 and z.0=q.2 and p.1=q.1 and z.1<9",
            "out x.1 of A x,B y where y.2=x.0");
        keysA0B0B1.sources(0, "out 1 of A w,B p,A z,B q where w.0=p.2 and z.0=q.2 and p.1=q.1 and z.1<w.1");
        keysA0B0B1.sources(0, "out 1 of A a,A b,A c,A d where a.0=b.0 and a.1=c.0 and b.1=d.0 and c.1=1 and d.1=2");
        keysA0B0B1.sources(2, "out 1 of A c,A d,A a,A b where a.0=b.0 and a.1=c.0 and b.1=d.0 and c.1=1 and d.1=1");
    }
}
