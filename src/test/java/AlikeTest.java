/** Promises 15 and 16: alike and sources. A has 2 columns, B 3 and C 1; the keys are as each test says. */
public final class AlikeTest {
    private static final Check CHECK = new Check();

    public static void main(String[] args) {
        wrongCalls();
        setsAndOutputs();
        pairings();
        classes();
        numbers();
        less();
        emptyBlocks();
        keys();
        keysOneAfterTheOther();
        CHECK.end();
    }

    private static BagPlanner sample(int... keys) {
        BagPlanner x = Check.withTables(2, 3, 1);
        for (int key : keys) {
            x.key(key / 10, key % 10);
        }
        return x;
    }

    private static void due(BagPlanner x, String p, String q, boolean want) {
        x.forget();
        Check.ask(x, p);
        Check.ask(x, q);
        CHECK.due("'" + p + "' and '" + q + "'", x.alike(0, 1), want);
        CHECK.due("'" + q + "' and '" + p + "'", x.alike(1, 0), want);
        CHECK.due("'" + p + "' and itself", x.alike(0, 0), true);
        CHECK.due("'" + q + "' and itself", x.alike(1, 1), true);
    }

    private static void sourcesDue(BagPlanner x, String text, int want) {
        x.forget();
        Check.ask(x, text);
        CHECK.due("sources of '" + text + "'", x.sources(0), want);
    }

    private static void wrongCalls() {
        BagPlanner x = sample();
        Check.ask(x, "out x.0 of A x");
        Check.ask(x, "out x.0 of A x + out x.0 of A x");
        CHECK.dueThrow("alike(0, 2)", Check.ARGUMENT, () -> x.alike(0, 2));
        CHECK.dueThrow("alike(2, 0)", Check.ARGUMENT, () -> x.alike(2, 0));
        CHECK.dueThrow("alike(-1, 0)", Check.ARGUMENT, () -> x.alike(-1, 0));
        CHECK.dueThrow("alike(0, -1)", Check.ARGUMENT, () -> x.alike(0, -1));
        CHECK.dueThrow("alike(1, 2): the argument is named first", Check.ARGUMENT, () -> x.alike(1, 2));
        CHECK.dueThrow("alike(2, 1): the argument is named first", Check.ARGUMENT, () -> x.alike(2, 1));
        CHECK.dueThrow("alike(0, 1)", Check.UNSUPPORTED, () -> x.alike(0, 1));
        CHECK.dueThrow("alike(1, 0)", Check.UNSUPPORTED, () -> x.alike(1, 0));
        CHECK.dueThrow("alike(1, 1)", Check.UNSUPPORTED, () -> x.alike(1, 1));
        CHECK.dueThrow("sources(2)", Check.ARGUMENT, () -> x.sources(2));
        CHECK.dueThrow("sources(-1)", Check.ARGUMENT, () -> x.sources(-1));
        CHECK.dueThrow("sources(1)", Check.UNSUPPORTED, () -> x.sources(1));
        CHECK.due("sources(0)", x.sources(0), 1);
        CHECK.due("alike(0, 0)", x.alike(0, 0), true);
    }

    private static void setsAndOutputs() {
        BagPlanner x = sample();
        due(x, "out x.0 of A x", "out y.0 of A y", true);
        due(x, "set out x.0 of A x", "set out y.0 of A y", true);
        due(x, "set out x.0 of A x", "out y.0 of A y", false);
        due(x, "out x.0 of A x", "out y.1 of A y", false);
        due(x, "out x.0 of A x", "out y.0,y.0 of A y", false);
        due(x, "out x.0,x.1 of A x", "out y.1,y.0 of A y", false);
        due(x, "out x.0,x.1 of A x where x.0=x.1", "out y.1,y.0 of A y where y.1=y.0", true);
        due(x, "out x.0 of A x", "out 1 of A x", false);
        due(x, "out 1 of A x", "out 1 of A x", true);
        due(x, "out 1 of A x", "out 2 of A x", false);
        due(x, "out 007,-0 of A x", "out 7,0 of A x", true);
    }

    private static void pairings() {
        BagPlanner x = sample();
        due(x, "out x.0 of A x,B y", "out x.0 of B y,A x", true);
        due(x, "out x.0 of A x,A y", "out y.0 of A x,A y", true);
        due(x, "out x.0 of A x", "out x.0 of A x,A y", false);
        due(x, "out x.0 of A x,A y", "out x.0 of A x,B y", false);
        due(x, "out x.0 of A x,A y", "out x.0 of A x,A y where x.0=y.0 and x.1=y.1", false);
        due(x, "out 1 of C x,C y,C z where x.0=y.0", "out 1 of C x,C y,C z where x.0=y.0 and y.0=z.0", false);
        due(x, "out 1 of C x,C y where x.0=1 and y.0=1", "out 1 of C x,C y where x.0=1", false);
        due(x, "set out x.0 of A x", "set out x.0 of A x,A y", false);
        due(x, "out x.0,y.0 of A x,A y", "out y.0,x.0 of A x,A y", true);
        due(x, "out x.0,y.1 of A x,A y", "out x.1,y.0 of A x,A y", false);
        due(x, "out x.0 of A x,A y,A z,A w where x.0=y.0 and y.1=z.0 and z.1=w.0",
            "out d.0 of A a,A b,A c,A d where b.0=c.1 and b.1=a.0 and c.0=d.0", true);
        due(x, "out x.0 of A x,A y,A z,A w where x.0=y.0 and y.1=z.0 and z.1=w.0",
            "out d.0 of A a,A b,A c,A d where b.0=c.1 and b.1=a.0 and c.0=d.1", false);
        due(x, "out x.0 of A x,A y,A z,A w where x.1=y.0 and y.1=z.0 and z.1=w.0",
            "out d.0 of A a,A b,A c,A d where b.0=c.1 and b.1=a.0 and d.1=c.0", true);
        due(x, "out 1 of A x,A y,A z where x.1=y.0 and y.1=z.0 and z.1=x.0",
            "out 1 of A a,A b,A c where b.1=a.0 and a.1=c.0 and b.0=c.1", true);
        due(x, "out 1 of A x,A y,A z where x.1=y.0 and y.1=z.0 and z.1=x.0",
            "out 1 of A a,A b,A c where b.1=a.0 and a.1=c.0 and b.0=c.0", false);
    }

    private static void classes() {
        BagPlanner x = sample();
        due(x, "out x.0 of B x where x.0=x.1 and x.1=x.2", "out x.2 of B x where x.2=x.0 and x.0=x.1", true);
        due(x, "out x.0 of B x where x.0=x.1", "out x.0 of B x where x.0=x.2", false);
        due(x, "out x.0 of B x where x.0=x.1", "out x.0 of B x", false);
        due(x, "out x.0 of B x where x.0=x.0", "out x.0 of B x", true);
        due(x, "out x.0 of B x where x.0=x.1 and x.0=x.1 and x.1=x.0", "out x.1 of B x where x.0=x.1", true);
        due(x, "out x.0 of A x,A y where x.0=y.0", "out y.0 of A x,A y where y.0=x.0", true);
        due(x, "out x.0 of A x,A y where x.0=y.0", "out y.1 of A x,A y where y.0=x.0", false);
        due(x, "out x.0 of A x,A y where x.0=y.1", "out x.1 of A x,A y where y.0=x.1", true);
        due(x, "out x.0 of A x,B y,C z where x.0=z.0 and y.1=z.0", "out z.0 of C z,B y,A x where x.0=y.1 and x.0=z.0",
            true);
    }

    private static void numbers() {
        BagPlanner x = sample();
        due(x, "out x.0 of A x where x.0=5", "out 5 of A x where 5=x.0", true);
        due(x, "out x.0 of A x where x.0=5", "out 5 of A x where 5=x.1", false);
        due(x, "out x.0 of A x where x.0=5", "out x.0 of A x where x.0=6", false);
        due(x, "out x.0 of A x where x.0=5", "out x.0 of A x where x.0=-5", false);
        due(x, "out x.0 of A x where x.0=5", "out x.0 of A x", false);
        due(x, "out 5 of A x", "out 5 of A x where x.0=5", false);
        due(x, "out 5 of A x where 5=5", "out 5 of A x", true);
        due(x, "out x.0,x.1 of A x where x.0=5 and 5=x.1", "out x.1,5 of A x where x.0=x.1 and x.1=005", true);
        due(x, "out x.0 of A x where x.0=5 and x.1=5", "out x.0 of A x where x.0=5 and x.0=x.1", true);
        due(x, "out x.1 of A x,A y where x.0=1 and y.0=2", "out y.1 of A x,A y where x.0=2 and y.0=1", true);
        due(x, "out x.1 of A x,A y where x.0=1 and y.0=2", "out x.1 of A x,A y where x.0=2 and y.0=1", false);
        due(x, "out 5 of A x where 6=6", "out 5 of A x where 7=7", true);
        due(x, "out 5 of A x where x.0=999", "out 5 of A x where x.0=-999", false);
        String fifteen = "out 1,2,3 of A x where 4<5 and 6<7 and 8<9 and 10<11 and 12<13 and 14<15";
        due(x, fifteen, "out 1,2,3 of A x", true);
        for (int number = -999; number <= 999; number += 50) {
            due(x, "out x.0 of A x where x.0=" + number, "out " + number + " of A x where x.0=" + number, true);
        }
    }

    private static void less() {
        BagPlanner x = sample();
        due(x, "out x.0 of A x where x.0<x.1", "out x.0 of A x", false);
        due(x, "out x.0 of A x where x.0<x.1", "out x.0 of A x where x.1<x.0", false);
        due(x, "out x.0 of A x where x.0<x.1 and x.0<x.1", "out x.0 of A x where x.0<x.1", true);
        due(x, "out x.0 of A x where 1<x.0 and x.1<2", "out x.0 of A x where x.1<2 and 1<x.0", true);
        due(x, "out x.0 of A x where 1<x.0 and x.1<2", "out x.0 of A x where x.1<2 and x.1<2", false);
        due(x, "out x.0 of A x where 1<x.0", "out x.0 of A x where 2<x.0", false);
        due(x, "out x.0 of A x where 1<x.0", "out x.0 of A x where 1<x.0 and 0<x.0", false);
        due(x, "out x.0 of A x where 1<x.0", "out x.0 of A x where 1<x.0 and 2<3", true);
        due(x, "out x.0 of A x where x.0=1 and x.0<2", "out x.0 of A x where x.0=1", true);
        due(x, "out x.0 of A x where x.0=1 and x.1=2 and x.0<x.1", "out 1 of A x where x.0=1 and x.1=2", true);
        due(x, "out x.0 of A x where x.0=1 and x.0<x.1", "out x.0 of A x where x.0=1 and 1<x.1", true);
        due(x, "out x.0 of A x where x.0=1 and 0<x.1", "out x.0 of A x where x.0=1 and 1<x.1", false);
        due(x, "out x.0 of A x where x.0<3", "out x.0 of A x where 3<x.0", false);
        due(x, "out x.0 of A x,A y where x.0<y.0 and y.0=x.1", "out x.0 of A x,A y where x.0<x.1 and y.0=x.1", true);
        due(x, "out 1 of A x,A y,A z where x.0<y.0 and y.0<z.0", "out 1 of A x,A y,A z where z.0<x.0 and x.0<y.0",
            true);
        due(x, "out 1 of A x,A y,A z where x.0<y.0 and y.0<z.0",
            "out 1 of A x,A y,A z where x.0<y.0 and y.0<z.0 and x.0<z.0", false);
        due(x, "out 1 of A x,A y where x.0<y.0 and y.0<x.0", "out 1 of A x,A y where y.0<y.0", false);
    }

    private static void emptyBlocks() {
        BagPlanner x = sample();
        String[] empty = {
            "out x.0 of A x where 1=2",
            "out x.0 of A x where x.0=1 and x.1=2 and x.0=x.1",
            "out x.0 of A x where x.0<x.0",
            "out 1 of B x where x.0=x.1 and x.1=x.2 and x.2<x.0",
            "out 1 of B x,C y where 3<2",
            "out 1 of B x,C y where 3<3",
            "out 1 of C y where y.0=-1 and 1<y.0",
            "out 1 of A y where y.0=5 and y.1=4 and y.0<y.1",
        };
        for (String text : empty) {
            sourcesDue(x, text, 0);
            for (String other : empty) {
                due(x, text, other, true);
            }
            due(x, text, "set " + text, false);
            due(x, text, text.replace("out", "out 1,"), false);
            due(x, text, "out x.0 of A x", false);
        }
        sourcesDue(x, "out 1 of A y where y.0=4 and y.1=5 and y.0<y.1", 1);
        sourcesDue(x, "out 1 of A x where 2<x.0 and x.0<1", 1);
        sourcesDue(x, "out 1,2 of A x where 2=2 and x.0=3", 1);
        sourcesDue(x, "out 1 of A x where -1<0 and -2<-1", 1);
    }

    private static void keys() {
        String self = "out x.0 of A x,A y where x.1=y.1";
        BagPlanner x = sample();
        sourcesDue(x, self, 2);
        sourcesDue(x, "out x.0 of A x,A y where x.0=y.0 and x.1=y.1", 2);
        due(x, self, "out x.0 of A x", false);
        x = sample(1);
        sourcesDue(x, self, 1);
        due(x, self, "out x.0 of A x", true);
        due(x, self, "out y.0 of A x,A y where x.1=y.1", true);
        due(x, "out x.0,y.0,y.1 of A x,A y where x.1=y.1", "out x.0,x.0,x.1 of A x", true);
        sourcesDue(x, "out x.0 of A x,A y where x.0=y.0", 2);
        sourcesDue(x, "out x.0 of A x,A y where x.1=y.0", 2);
        sourcesDue(x, "out x.0 of A x,A y where x.1=y.0 and y.1=x.1", 1);
        sourcesDue(x, "out x.0 of A x,A y where x.1=3 and y.1=3", 1);
        sourcesDue(x, "out x.0 of A x,A y where x.1=3 and y.1=4", 2);
        sourcesDue(x, "out x.0 of A x,A y where x.1=y.1 and x.0<y.0", 0);
        sourcesDue(x, "out x.0 of A x,A y where x.1=y.1 and x.0=1 and y.0=2", 0);
        sourcesDue(x, "out x.0 of A x,A y,A z,A w where x.1=y.1 and z.1=w.1", 2);
        sourcesDue(x, "out x.0 of A x,A y,A z,A w where x.1=y.1 and z.1=w.1 and w.1=y.1", 1);
        sourcesDue(x, "out x.0 of A x,C y where x.1=y.0", 2);
        x = sample(11);
        sourcesDue(x, "out x.1 of B x,A y where x.1=y.1", 2);
        x.key(0, 1);
        sourcesDue(x, "out x.1 of B x,A y where x.1=y.1", 2);
        x = sample(20);
        sourcesDue(x, "out 1 of C x,C y", 2);
        sourcesDue(x, "out 1 of C x,C y,C z where x.0=y.0 and y.0=z.0", 1);
        due(x, "out 1 of C x,C y,A z where x.0=y.0 and z.0=y.0", "out 1 of A z,C x where z.0=x.0", true);
        x.forget();
        Check.ask(x, "out x.0 of A x,A y where x.0=y.0");
        CHECK.due("before a key is declared", x.sources(0), 2);
        x.key(0, 0);
        CHECK.due("after it has been declared", x.sources(0), 1);
    }

    private static void keysOneAfterTheOther() {
        BagPlanner x = sample(0, 10, 11);
        sourcesDue(x, "out x.1 of A x,A y,A z,A w where z.0=w.0 and x.1=z.0 and y.1=w.0 and x.0=y.0", 2);
        sourcesDue(x, "out 1 of A x,A y,A z,A w where z.0=x.1 and w.0=y.1 and x.0=y.0", 2);
        sourcesDue(x, "out 1 of A z,A w,A x,A y where z.0=x.1 and w.0=y.1 and x.0=y.0", 2);
        sourcesDue(x, "out 1 of A w,B p,A z,B q where w.0=p.2 and z.0=q.2 and p.1=q.1", 2);
        sourcesDue(x, "out 1 of A w,B p,A z,B q where w.0=p.2 and z.0=q.2 and p.1=q.0", 4);
        sourcesDue(x, "out 1 of B p,B q,B r where p.0=q.0 and q.1=r.1", 1);
        due(x, "out w.1 of A w,B p,A z,B q where w.0=p.2 and z.0=q.2 and p.1=q.1 and z.1<9",
            "out x.1 of A x,B y where y.2=x.0 and x.1<9", true);
        due(x, "out w.1 of A w,B p,A z,B q where w.0=p.2 and z.0=q.2 and p.1=q.1 and z.1<9",
            "out x.1 of A x,B y where y.2=x.0", false);
        sourcesDue(x, "out 1 of A w,B p,A z,B q where w.0=p.2 and z.0=q.2 and p.1=q.1 and z.1<w.1", 0);
        sourcesDue(x, "out 1 of A a,A b,A c,A d where a.0=b.0 and a.1=c.0 and b.1=d.0 and c.1=1 and d.1=2", 0);
        sourcesDue(x, "out 1 of A c,A d,A a,A b where a.0=b.0 and a.1=c.0 and b.1=d.0 and c.1=1 and d.1=1", 2);
    }
}
