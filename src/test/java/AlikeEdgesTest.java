/** The boundaries that the document names for the normal form and for alike questions: promises 15 and 16. */
public final class AlikeEdgesTest {
    private static final Check CHECK = new Check();
    private static final Sentences DOCUMENT = new Sentences(CHECK);
    private static final Blocks PLAIN = new Blocks(CHECK);

    public static void main(String[] args) {
        classes();
        emptyBlocks();
        alikeBlocks();
        promises();
        CHECK.end();
    }

    private static void classes() {
        DOCUMENT.test("Terms", "what a condition = has on both sides is in one class", AlikeEdgesTest::bothSides);
        DOCUMENT.test("Terms", "and so is each number wherever it stands", AlikeEdgesTest::numberWherever);
        DOCUMENT.test("Terms", "Two sources of the same table are ONE if a key of it is in the same class for both",
            AlikeEdgesTest::oneByKey);
        DOCUMENT.test("Terms", "then all their columns are in one class each with the other's",
            AlikeEdgesTest::allColumnsOfOnes);
        DOCUMENT.test("Terms", "(So on till nothing more comes of it.)", AlikeEdgesTest::soOn);
    }

    private static void emptyBlocks() {
        DOCUMENT.test("Terms", "The block is EMPTY if two numbers are in one class", AlikeEdgesTest::twoNumbers);
        DOCUMENT.test("Terms", "or a condition < has both sides in one class", AlikeEdgesTest::lessThanItself);
        DOCUMENT.test("Terms", "or numbers in the classes of both sides, of which the first is not less",
            AlikeEdgesTest::notLess);
    }

    private static void alikeBlocks() {
        DOCUMENT.test("Terms", "Two blocks are ALIKE if both have set or none", AlikeEdgesTest::setOrNone);
        DOCUMENT.test("Terms", "both have as many outputs", AlikeEdgesTest::asManyOutputs);
        DOCUMENT.test("Terms", "either both are EMPTY, or neither is", AlikeEdgesTest::bothEmpty);
        DOCUMENT.test("Terms", "a one-to-one pairing of what is left of their sources", AlikeEdgesTest::oneToOne);
        DOCUMENT.test("Terms", "(ones counting once)", AlikeEdgesTest::onesCountOnce);
        DOCUMENT.test("Terms", "each with one of the same table", AlikeEdgesTest::sameTable);
        DOCUMENT.test("Terms", "two columns are in one class of the first block just when the paired ones are in one"
            + " class of the second one", AlikeEdgesTest::classesGoWithClasses);
        DOCUMENT.test("Terms", "with the same number in it or none", AlikeEdgesTest::sameNumberOrNone);
        DOCUMENT.test("Terms", "and the outputs are in paired classes, one by one", AlikeEdgesTest::outputsOneByOne);
        DOCUMENT.test("Terms", "(a number standing for the class it is in, or for itself)",
            AlikeEdgesTest::numberForItsClass);
        DOCUMENT.test("Terms", "and so are the conditions <", AlikeEdgesTest::lessConditions);
        DOCUMENT.test("Terms", "(those between two classes with numbers left out)", AlikeEdgesTest::lessOfNumbers);
        DOCUMENT.test("Terms", "in whatever order they stand in the text and however often",
            AlikeEdgesTest::anyOrderAndOften);
    }

    private static void promises() {
        DOCUMENT.test(15, "Whether two questions of one block each are alike.", AlikeEdgesTest::twoQuestions);
        DOCUMENT.test(15, "Illegal argument: there is no such question", AlikeEdgesTest::alikeOfNone);
        DOCUMENT.test(15, "unsupported operation: one has more blocks", AlikeEdgesTest::alikeOfMoreBlocks);
        DOCUMENT.test(16, "How many sources are left in the normal form of a question of one block",
            AlikeEdgesTest::sourcesLeft);
        DOCUMENT.test(16, "0 when it is EMPTY", AlikeEdgesTest::noSourcesWhenEmpty);
        DOCUMENT.test(16, "Illegal argument: there is no such question", AlikeEdgesTest::sourcesOfNone);
        DOCUMENT.test(16, "unsupported operation: it has more blocks", AlikeEdgesTest::sourcesOfMoreBlocks);
    }

    private static void bothSides() {
        String two = "out x.0 of B x where x.0=x.1";
        PLAIN.alike(two, "out x.1 of B x where x.0=x.1", "out x.0 of B x where x.1=x.0",
            "out y.1 of B y where y.1=y.0");
        PLAIN.notAlike(two, "out x.0 of B x", "out x.0 of B x where x.0=x.2", "out x.0 of B x where x.1=x.2",
            "out x.2 of B x where x.0=x.1", "out x.0 of B x where x.0<x.1");
        String three = "out x.0 of B x where x.0=x.1 and x.1=x.2";
        PLAIN.alike(three, "out x.2 of B x where x.2=x.0 and x.0=x.1", "out x.1 of B x where x.0=x.2 and x.1=x.2",
            "out x.1 of B x where x.0=x.1 and x.1=x.2 and x.2=x.0");
        PLAIN.notAlike(three, two);
        PLAIN.alike("out x.0 of B x", "out x.0 of B x where x.0=x.0", "out x.0 of B x where 1=1 and x.2=x.2");
        PLAIN.alike("out 1 of A x,A y where x.0=y.0 and x.1=y.1", "out 1 of A x,A y where y.0=x.0 and y.1=x.1");
        PLAIN.notAlike("out 1 of A x,A y where x.0=y.0 and x.1=y.1", "out 1 of A x,A y where x.0=y.1 and x.1=y.0");
        PLAIN.alike("out 1 of A x,A y,A z,A w where x.0=y.0 and z.0=w.0 and y.0=z.0",
            "out 1 of A x,A y,A z,A w where x.0=w.0 and y.0=w.0 and z.0=w.0");
    }

    private static void numberWherever() {
        String both = "out 1 of A x where x.0=5 and x.1=5";
        PLAIN.alike(both, "out 1 of A x where x.0=5 and x.0=x.1", "out 1 of A x where 5=x.1 and x.0=005");
        PLAIN.notAlike(both, "out 1 of A x where x.0=5 and x.1=4", "out 1 of A x where x.0=5",
            "out 1 of A x where x.0=x.1");
        PLAIN.alike("out 1 of A x where x.0=0", "out 1 of A x where x.0=-0", "out 1 of A x where 000=x.0");
        PLAIN.notAlike("out 1 of A x where x.0=1", "out 1 of A x where x.0=-1");
        PLAIN.alike("out 5,x.1 of A x where x.0=5 and x.0<x.1", "out x.0,x.1 of A x where x.0=5 and 5<x.1");
        PLAIN.sources(0, "out 1 of A x where x.0=1 and x.1=1 and x.0<x.1", "out 1 of A x where x.0=999 and 999<x.0");
        String many = "out 1,2,3 of A x where 4<5 and 6<7 and 8<9 and 10<11 and 12<13 and 14<15";
        PLAIN.alike(many, "out 1,2,3 of A x");
        BagPlanner x = PLAIN.planner();
        for (int number = -15; number <= 15; number++) {
            x.forget();
            Check.ask(x, "out x.0 of A x where x.0=" + number);
            Check.ask(x, "out " + number + " of A x where x.0=" + number);
            CHECK.due("numbers of questions before, and " + number, x.alike(0, 1), true);
        }
        PLAIN.sources(1, many);
    }

    private static void oneByKey() {
        String twice = "out x.1 of A x,A y where x.0=y.0";
        String viaNumber = "out x.1 of A x,A y where x.0=5 and y.0=5";
        PLAIN.sources(2, twice, viaNumber, "out x.1 of A x,A y where x.0=y.0 and x.1=y.1");
        Blocks keyA1 = new Blocks(CHECK, "A1");
        keyA1.sources(2, twice, viaNumber, "out 1 of A x,A y where x.1=y.0", "out 1 of A x,A y where x.1<y.1");
        keyA1.sources(1, "out x.1 of A x,A y where x.1=y.1");
        Blocks keysB0C0 = new Blocks(CHECK, "B0", "C0");
        keysB0C0.sources(2, twice, "out 1 of B x,C y where x.0=y.0", "out 1 of A x,B y where x.0=y.0");
        Blocks keysA0B0 = new Blocks(CHECK, "A0", "B0");
        keysA0B0.sources(1, twice, viaNumber, "out 1 of A x,A y where y.0=x.0",
            "out 1 of A x,A y where x.0=y.1 and y.1=y.0");
        keysA0B0.sources(2, "out 1 of A x,A y", "out 1 of A x,A y where x.1=y.1", "out 1 of A x,A y where x.0=y.1",
            "out 1 of A x,A y where x.0=5 and y.0=6", "out 1 of A x,B y where x.0=y.0");
        Blocks keysB0B1B2 = new Blocks(CHECK, "B0", "B1", "B2");
        keysB0B1B2.sources(1, "out 1 of B x,B y where x.0=y.0", "out 1 of B x,B y where x.1=y.1",
            "out 1 of B x,B y where x.2=y.2");
        keysB0B1B2.sources(2, "out 1 of B x,B y where x.0=y.1 and x.1=y.2 and x.2=y.0");
    }

    private static void allColumnsOfOnes() {
        Blocks keyB1 = new Blocks(CHECK, "B1");
        String twice = "out x.0,x.1,x.2 of B x,B y where x.1=y.1";
        keyB1.alike(twice, "out x.0,x.1,x.2 of B x", "out y.0,x.1,y.2 of B x,B y where x.1=y.1",
            "out y.0,y.1,x.2 of B y,B x where y.1=x.1", "out x.0,x.1,x.2 of B x,B y where x.1=y.1 and x.0=y.0");
        keyB1.notAlike(twice, "out x.0,x.1,x.2 of B x,B y where x.1=y.1 and x.0=y.2", "out x.0,x.1,x.2 of B x,B y");
        keyB1.sources(0, "out 1 of B x,B y where x.1=y.1 and x.0<y.0", "out 1 of B x,B y where x.1=y.1 and y.2<x.2",
            "out 1 of B x,B y where x.1=y.1 and x.2=1 and y.2=2");
        keyB1.sources(1, "out 1 of B x,B y where x.1=y.1 and x.0<y.2",
            "out 1 of B x,B y where x.1=y.1 and x.2=1 and y.0=2");
        PLAIN.sources(2, "out 1 of B x,B y where x.1=y.1 and x.0<y.0",
            "out 1 of B x,B y where x.1=y.1 and x.2=1 and y.2=2");
    }

    private static void soOn() {
        Blocks keys = new Blocks(CHECK, "A0", "B0", "B1");
        String chain = "a.0=b.0 and a.1=c.0 and b.1=d.0";
        String longChain = "c.0=d.0 and b.0=c.1 and c.0=d.1 and a.0=b.2 and b.0=c.2";
        for (String order : new String[] {"abcd", "dcba", "cdab", "badc", "cadb", "bdac", "dbca", "acbd"}) {
            String some = "out 1 of " + sourcesOf('A', order) + " where " + chain;
            keys.sources(2, some, some + " and c.1=1 and d.1=1", some + " and c.1<d.0");
            keys.sources(0, some + " and c.1<d.1", some + " and c.1=1 and d.1=2");
            keys.alike(some, "out 1 of A a,A c where a.1=c.0");
            keys.notAlike(some, "out 1 of A a,A c where a.0=c.0", "out 1 of A a,A c where a.0=c.1 and a.1=c.0",
                "out 1 of A a,A c");
            String more = "out 1 of " + sourcesOf('B', order) + " where " + longChain;
            keys.sources(1, more, more + " and a.1=a.2");
            keys.sources(0, more + " and a.1<d.1", more + " and a.2<a.1");
            keys.alike(more, "out 1 of B x where x.0=x.1 and x.1=x.2");
        }
        keys.sources(4, "out 1 of A a,A b,A c,A d where a.1=b.1 and a.1=c.0 and b.1=d.1");
        keys.sources(1, "out 1 of B p,B q,B r where p.0=q.0 and q.1=r.1",
            "out 1 of B r,B p,B q where p.0=q.0 and q.1=r.1");
        keys.sources(2, "out 1 of A w,B p,A z,B q where w.0=p.2 and z.0=q.2 and p.1=q.1");
    }

    private static String sourcesOf(char table, String names) {
        StringBuilder all = new StringBuilder();
        for (char name : names.toCharArray()) {
            all.append(all.length() == 0 ? "" : ",").append(table).append(' ').append(name);
        }
        return all.toString();
    }

    private static void twoNumbers() {
        Blocks keyC0 = new Blocks(CHECK, "C0");
        keyC0.sources(0, "out 1 of A x where 1=2", "out 1 of A x where x.0=1 and x.0=2",
            "out 1 of A x where x.0=1 and 2=x.0", "out 1 of A x where x.0=1 and x.1=2 and x.1=x.0",
            "out 1 of A x where 998=999", "out 1 of A x where 1=-1",
            "out 1 of C x,C y,A z where x.0=y.0 and x.0=1 and y.0=2");
        keyC0.sources(1, "out 1 of A x where 1=1", "out 1 of A x where x.0=1 and x.0=1",
            "out 1 of A x where x.0=1 and x.1=2", "out 1 of A x where 0=-0", "out 1 of A x where 7=007",
            "out 1,2,3 of A x where x.0=4");
    }

    private static void lessThanItself() {
        PLAIN.sources(0, "out 1 of A x where x.0<x.0", "out 1 of A x where x.0=x.1 and x.0<x.1",
            "out 1 of A x where 5<5", "out 1 of A x where x.0=x.1 and x.1<x.0", "out 1 of A x where x.0=5 and x.0<5",
            "out 1 of B x where x.0=x.1 and x.1=x.2 and x.2<x.0", "out 1 of A x where x.0=5 and 5<x.0",
            "out 1 of A x where x.0<x.1 and x.1<x.1");
        PLAIN.sources(1, "out 1 of A x where x.0<x.1", "out 1 of A x where x.0<x.1 and x.1<x.0",
            "out 1 of A x where x.0=x.0", "out 1 of A x where x.0<5 and 5<x.0",
            "out 1 of B x where x.0=x.1 and x.1<x.2");
    }

    private static void notLess() {
        PLAIN.sources(0, "out 1 of A x where 2<1", "out 1 of A x where 2<2", "out 1 of A x where 1<-1",
            "out 1 of A x where -1<-2", "out 1 of A x where x.0=2 and x.0<1", "out 1 of A x where x.0=2 and 3<x.0",
            "out 1 of A x where x.0=2 and x.1=1 and x.0<x.1", "out 1 of A x where 999<998",
            "out 1 of A x where 999<-999", "out 1 of A x where 1<2 and 2<3 and 4<3");
        PLAIN.sources(1, "out 1 of A x where 1<2", "out 1 of A x where -1<1", "out 1 of A x where -2<-1",
            "out 1 of A x where x.0=2 and x.0<3", "out 1 of A x where x.0=2 and 1<x.0",
            "out 1 of A x where x.0=1 and x.1=2 and x.0<x.1", "out 1 of A x where 998<999",
            "out 1 of A x where -999<999", "out 1 of A x where x.0=2 and 2<x.1", "out 1 of A x where 3<x.0 and x.0<3");
    }

    private static void setOrNone() {
        PLAIN.alike("out x.0 of A x", "out y.0 of A y");
        PLAIN.alike("set out x.0 of A x", "set out y.0 of A y");
        PLAIN.notAlike("set out x.0 of A x", "out x.0 of A x");
        Blocks keyA0 = new Blocks(CHECK, "A0");
        keyA0.notAlike("set out x.0 of A x", "out x.0 of A x");
        keyA0.notAlike("set out 1 of A x where 1=2", "out 1 of A x where 1=2");
    }

    private static void asManyOutputs() {
        String[] texts = {"out 1 of A x", "out 1,1 of A x", "out 1,1,1 of A x"};
        for (String p : texts) {
            for (String q : texts) {
                PLAIN.alikeDue(p, q, p.equals(q));
                PLAIN.alikeDue(p + " where 1=2", q + " where 1=2", p.equals(q));
            }
        }
        PLAIN.notAlike("out x.0 of A x", "out x.0,x.1 of A x", "out x.0,x.0 of A x");
    }

    private static void bothEmpty() {
        String empty = "out x.0 of A x where 1=2";
        PLAIN.alike(empty, "out 7 of B x,C y where 3<2", "out x.1 of B x,B y,B z where x.0<x.0",
            "out 1 of C x where x.0=1 and 1<x.0");
        PLAIN.notAlike(empty, "out x.0 of A x", "out x.0 of A x where 1=1", "out x.0 of A x where 1<2");
        PLAIN.notAlike("out 1 of A x where x.0<x.1 and x.1<x.0", "out 1 of A x where x.0<x.0");
        PLAIN.notAlike("out 1 of A x where x.0<1 and 2<x.0", "out 1 of A x where 2<1");
        PLAIN.alike("out 1 of A x where x.0<1 and 2<x.0", "out 1 of A y where 2<y.0 and y.0<1");
    }

    private static void oneToOne() {
        PLAIN.notAlike("out x.0 of A x", "out x.0 of A x,A y", "out x.0 of A x,A y,A z", "out x.0 of A x,C y");
        PLAIN.notAlike("set out x.0 of A x", "set out x.0 of A x,A y");
        PLAIN.alike("out x.0 of A x,A y", "out y.0 of A x,A y", "out x.0 of A y,A x");
        PLAIN.notAlike("out x.0,y.0 of A x,A y", "out x.0,x.0 of A x,A y");
        PLAIN.notAlike("out 1 of C x,C y,C z where x.0=y.0", "out 1 of C x,C y,C z where x.0=y.0 and y.0=z.0");
        String path = "out x.0 of A x,A y,A z,A w where x.1=y.0 and y.1=z.0 and z.1=w.0";
        String[] names = {"x", "y", "z", "w"};
        for (int turn = 1; turn < 4; turn++) {
            StringBuilder sources = new StringBuilder();
            for (int i = 0; i < 4; i++) {
                sources.append(i == 0 ? "A " : ",A ").append(names[(i + turn) % 4]);
            }
            PLAIN.alike(path, path.replace("A x,A y,A z,A w", sources));
            PLAIN.alike(path,
                path.replace("A x,A y,A z,A w", sources.reverse().toString().replaceAll("(.) A", "A $1")));
        }
        PLAIN.notAlike(path, path.replace("z.1=w.0", "z.1=w.1"), path.replace("out x.0", "out w.0"),
            path.replace("z.1=w.0", "z.1=x.0"), path.replace("y.1=z.0", "y.1=w.1"));
    }

    private static void onesCountOnce() {
        Blocks keyA0 = new Blocks(CHECK, "A0");
        String one = "out x.1 of A x";
        keyA0.alike(one, "out x.1 of A x,A y where x.0=y.0", "out z.1 of A x,A y,A z where x.0=y.0 and z.0=y.0",
            "out y.1 of A x,A y,A z,A w where x.0=y.0 and z.0=w.0 and w.0=x.0");
        keyA0.notAlike(one, "out x.1 of A x,A y", "out x.1 of A x,A y,A z where y.0=z.0");
        keyA0.alike("out x.1 of A x,A y", "out x.1 of A x,A y,A z where y.0=z.0",
            "out y.1 of A x,A y,A z where y.0=z.0", "out y.1 of A x,A y,A z,A w where y.0=z.0 and x.0=w.0");
        keyA0.sources(1, "out y.1 of A x,A y,A z,A w where x.0=y.0 and z.0=w.0 and w.0=x.0");
        keyA0.sources(2, "out y.1 of A x,A y,A z,A w where y.0=z.0 and x.0=w.0",
            "out y.1 of A x,A y,A z,A w where y.0=z.0 and z.0=w.0");
    }

    private static void sameTable() {
        BagPlanner x = Check.withTables(1, 1, 1, 1);
        Check.ask(x, "out 1 of A x,B y");
        Check.ask(x, "out 1 of B x,A y");
        Check.ask(x, "out 1 of A x,A y");
        Check.ask(x, "out 1 of B x,C y");
        CHECK.due("A, B and B, A", x.alike(0, 1), true);
        CHECK.due("A, B and A, A", x.alike(0, 2), false);
        CHECK.due("A, B and B, C", x.alike(0, 3), false);
        PLAIN.alike("out x.0 of A x,B y", "out x.0 of B y,A x");
        PLAIN.notAlike("out x.0 of A x,B y", "out x.0 of B x,A y", "out x.0 of A x,A y", "out x.0 of A x,C y");
        PLAIN.notAlike("out x.0 of A x", "out x.0 of B x", "out x.0 of C x");
    }

    private static void classesGoWithClasses() {
        String first = "out 1 of A x,B y where x.0=y.0";
        PLAIN.alike(first, "out 1 of B x,A y where x.0=y.0");
        PLAIN.notAlike(first, "out 1 of A x,B y where x.0=y.1", "out 1 of A x,B y where x.1=y.0", "out 1 of A x,B y",
            "out 1 of A x,B y where x.0=y.0 and x.1=y.1", "out 1 of A x,B y where x.0=y.0 and y.0=y.1",
            "out 1 of A x,B y where x.0=y.0 and y.1=y.2");
        PLAIN.alike("out 1 of A x,A y where x.0=x.1", "out 1 of A x,A y where y.0=y.1");
        PLAIN.notAlike("out 1 of A x,A y where x.0=x.1", "out 1 of A x,A y where y.0=y.1 and x.0=x.1");
        String ring = "out 1 of A x,A y,A z where x.1=y.0 and y.1=z.0 and z.1=x.0";
        PLAIN.alike(ring, "out 1 of A a,A b,A c where b.1=a.0 and a.1=c.0 and b.0=c.1");
        PLAIN.notAlike(ring, "out 1 of A a,A b,A c where b.1=a.0 and a.1=c.0 and b.0=c.0",
            "out 1 of A a,A b,A c where a.1=b.0 and b.1=a.0 and c.1=c.0");
    }

    private static void sameNumberOrNone() {
        String five = "out 1 of A x where x.0=5";
        PLAIN.alike(five, "out 1 of A x where 5=x.0", "out 1 of A x where x.0=005");
        PLAIN.notAlike(five, "out 1 of A x where x.0=6", "out 1 of A x where x.0=-5", "out 1 of A x",
            "out 1 of A x where x.1=5", "out 1 of A x where 5=5", "out 1 of A x where x.0=5 and x.1=5");
        PLAIN.notAlike("out 1 of A x where x.0=999", "out 1 of A x where x.0=-999", "out 1 of A x where x.0=998",
            "out 1 of A x");
        PLAIN.notAlike("out 1 of A x where x.0=0", "out 1 of A x", "out 1 of A x where x.0=-1");
        PLAIN.notAlike("out 1 of A x where x.0=-1", "out 1 of A x");
        PLAIN.notAlike("out 1 of A x where x.0=-999", "out 1 of A x", "out 1 of A x where x.0=-998");
        PLAIN.alike("out 1 of A x,A y where x.0=1 and y.0=2", "out 1 of A x,A y where x.0=2 and y.0=1");
        PLAIN.notAlike("out x.1 of A x,A y where x.0=1 and y.0=2", "out x.1 of A x,A y where x.0=2 and y.0=1");
        PLAIN.notAlike("out 1 of C x,C y where x.0=1 and y.0=1", "out 1 of C x,C y where x.0=1",
            "out 1 of C x,C y where x.0=y.0");
    }

    private static void outputsOneByOne() {
        PLAIN.notAlike("out x.0 of A x", "out x.1 of A x");
        PLAIN.notAlike("out x.0,x.1 of A x", "out x.1,x.0 of A x", "out x.0,x.0 of A x", "out x.1,x.1 of A x");
        PLAIN.notAlike("out x.0,x.1,x.2 of B x", "out x.0,x.2,x.1 of B x", "out x.0,x.1,x.1 of B x",
            "out x.2,x.1,x.2 of B x");
        PLAIN.alike("out x.0,x.1 of A x where x.0=x.1", "out x.1,x.0 of A x where x.0=x.1",
            "out x.0,x.0 of A x where x.0=x.1");
        PLAIN.alike("out x.0,y.0 of A x,A y", "out y.0,x.0 of A x,A y");
        PLAIN.notAlike("out x.0,y.0,1 of A x,A y", "out x.0,y.1,1 of A x,A y", "out x.0,x.0,1 of A x,A y",
            "out x.0,y.0,2 of A x,A y");
        PLAIN.notAlike("out x.0,y.0 of A x,A y where x.1=1", "out y.0,x.0 of A x,A y where x.1=1");
    }

    private static void numberForItsClass() {
        PLAIN.alike("out x.0 of A x where x.0=5", "out 5 of A x where x.0=5", "out 005 of A x where 5=x.0");
        PLAIN.notAlike("out x.0 of A x where x.0=5", "out 6 of A x where x.0=5", "out x.1 of A x where x.0=5",
            "out 5 of A x");
        PLAIN.alike("out 5 of A x", "out 005 of A x", "out 5 of A x where 6=6", "out 5 of A x where 5=5");
        PLAIN.notAlike("out 5 of A x", "out 6 of A x", "out -5 of A x", "out x.0 of A x");
        PLAIN.alike("out 0 of A x", "out -0 of A x", "out 000 of A x");
        PLAIN.alike("out x.1,5 of A x where x.0=5 and x.1=5", "out x.0,x.1 of A x where x.0=5 and x.1=x.0");
        PLAIN.notAlike("out 1,2 of A x", "out 2,1 of A x");
    }

    private static void lessConditions() {
        String less = "out 1 of A x where x.0<x.1";
        PLAIN.notAlike(less, "out 1 of A x", "out 1 of A x where x.1<x.0", "out 1 of A x where x.0=x.1",
            "out 1 of A x where x.0<1", "out 1 of A x where x.0<x.1 and x.1<x.0");
        PLAIN.notAlike("out 1 of A x where x.0<3", "out 1 of A x where 3<x.0", "out 1 of A x where x.0<4",
            "out 1 of A x where x.1<3", "out 1 of A x where x.0<3 and x.0<4", "out 1 of A x where x.0<-3");
        PLAIN.alike("out 1 of A x where x.0=3 and x.0<x.1", "out 1 of A x where x.0=3 and 3<x.1");
        PLAIN.notAlike("out 1 of A x where x.0=3 and x.0<x.1", "out 1 of A x where x.0=3 and 2<x.1");
        PLAIN.alike("out 1 of A x,A y where x.0<y.0", "out 1 of A x,A y where y.0<x.0");
        PLAIN.notAlike("out x.1 of A x,A y where x.0<y.0", "out x.1 of A x,A y where y.0<x.0");
        PLAIN.alike("out 1 of B x where x.0=x.1 and x.0<x.2", "out 1 of B x where x.1=x.0 and x.1<x.2");
        PLAIN.notAlike("out 1 of C x,C y,C z where x.0<y.0 and y.0<z.0",
            "out 1 of C x,C y,C z where x.0<y.0 and y.0<z.0 and x.0<z.0",
            "out 1 of C x,C y,C z where x.0<y.0 and x.0<z.0");
    }

    private static void lessOfNumbers() {
        PLAIN.alike("out 1 of A x where x.0<3", "out 1 of A x where x.0<3 and 1<2",
            "out 1 of A x where 4<7 and x.0<3");
        PLAIN.alike("out 1 of A x where x.0=1 and x.1=2", "out 1 of A x where x.0=1 and x.1=2 and x.0<x.1",
            "out 1 of A x where x.0=1 and x.1=2 and x.0<9", "out 1 of A x where x.0=1 and x.1=2 and -1<x.0 and 0<5");
        PLAIN.alike("out 1 of A x", "out 1 of A x where 1<2", "out 1 of A x where -999<999 and 1<2");
        PLAIN.notAlike("out 1 of A x where x.0=1", "out 1 of A x where x.0=1 and x.0<x.1",
            "out 1 of A x where x.0=1 and x.1<1", "out 1 of A x where x.0=1 and 2<1");
    }

    private static void anyOrderAndOften() {
        String both = "out 1 of A x where 1<x.0 and x.1<2";
        PLAIN.alike(both, "out 1 of A x where x.1<2 and 1<x.0", "out 1 of A x where 1<x.0 and x.1<2 and 1<x.0",
            "out 1 of A x where x.1<2 and x.1<2 and x.1<2 and 1<x.0 and 1<x.0 and x.1<2");
        PLAIN.notAlike(both, "out 1 of A x where 1<x.0 and 1<x.0", "out 1 of A x where x.1<2 and x.1<2",
            "out 1 of A x where x.1<2", "out 1 of A x where 1<x.0 and x.1<2 and 1<x.1");
        PLAIN.alike("out 1 of A x where x.0=1 and x.1=2", "out 1 of A x where 2=x.1 and 1=x.0 and x.1=2 and x.0=1");
        PLAIN.alike("out 1 of B x where x.0<x.1 and x.1=x.2", "out 1 of B x where x.2=x.1 and x.0<x.2 and x.0<x.1");
        PLAIN.alike("out 1 of A x where x.0<x.1", "out 1 of A x where x.0<x.1 and x.0<x.1 and x.0<x.1 and x.0<x.1");
    }

    private static void twoQuestions() {
        BagPlanner x = PLAIN.planner("out x.0 of A x", "out x.1 of A x", "out y.0 of A y", "set out y.0 of A y");
        for (int p = 0; p < 4; p++) {
            for (int q = 0; q < 4; q++) {
                CHECK.due("alike(" + p + ", " + q + ")", x.alike(p, q), p == q || p + q == 2 && p != 1);
            }
        }
        BagPlanner y = PLAIN.planner("out x.0 of A x,A y where x.0=y.0", "out x.0 of A x");
        y.insert(0, 1, 1, 0);
        CHECK.due("the rows do not matter", y.alike(0, 1), false);
        y.key(0, 0);
        CHECK.due("the keys of now do", y.alike(0, 1), true);
        y.delete(0, 0, 1);
        CHECK.due("with rows or without", y.alike(0, 1), true);
    }

    private static void alikeOfNone() {
        for (int count = 0; count <= 4; count++) {
            BagPlanner x = PLAIN.planner();
            for (int q = 0; q < count; q++) {
                Check.ask(x, "out 1 of A x");
            }
            int last = count - 1;
            for (int q : new int[] {Integer.MIN_VALUE, -1, count, 4, 5, 256, Integer.MAX_VALUE}) {
                CHECK.dueThrow("alike(" + q + ", last) of " + count, Check.ARGUMENT, () -> x.alike(q, last));
                CHECK.dueThrow("alike(last, " + q + ") of " + count, Check.ARGUMENT, () -> x.alike(last, q));
                CHECK.dueThrow("alike(" + q + ", " + q + ") of " + count, Check.ARGUMENT, () -> x.alike(q, q));
            }
            if (count > 0) {
                CHECK.due("alike(0, last) of " + count, x.alike(0, last), true);
                CHECK.due("alike(last, 0) of " + count, x.alike(last, 0), true);
            }
        }
    }

    private static void alikeOfMoreBlocks() {
        BagPlanner x = PLAIN.planner("out 1 of A x", "out 1 of A x+out 1 of A x",
            "out 1 of A x-out 1 of A x^out 1 of A x");
        for (int p = 0; p < 3; p++) {
            for (int q = 0; q < 3; q++) {
                int first = p;
                int second = q;
                CHECK.due("alike(" + p + ", " + q + ")", Check.outcome(() -> x.alike(first, second) ? 1 : 0),
                    p == 0 && q == 0 ? "1" : "throws.UnsupportedOperationException");
            }
            int more = p;
            CHECK.dueThrow("alike(" + p + ", 3): that reason is named first", Check.ARGUMENT, () -> x.alike(more, 3));
            CHECK.dueThrow("alike(3, " + p + "): that reason is named first", Check.ARGUMENT, () -> x.alike(3, more));
        }
    }

    private static void sourcesLeft() {
        PLAIN.sources(1, "out 1 of A x", "set out 1 of A x");
        PLAIN.sources(2, "out 1 of A x,B y", "out x.0 of A x,A y where x.0=y.0 and x.1=y.1");
        PLAIN.sources(3, "out 1 of A x,B y,C z where x.0=y.0 and y.0=z.0");
        PLAIN.sources(4, "out 1 of A x,A y,A z,A w", "out 1 of C x,C y,C z,C w where x.0=y.0 and y.0=z.0 and z.0=w.0");
        Blocks keyC0 = new Blocks(CHECK, "C0");
        keyC0.sources(1, "out 1 of C x,C y,C z,C w where x.0=y.0 and y.0=z.0 and z.0=w.0");
        keyC0.sources(2, "out 1 of C x,C y,C z,C w where x.0=y.0 and y.0=z.0");
        keyC0.sources(3, "out 1 of C x,C y,C z,C w where x.0=w.0");
        keyC0.sources(4, "out 1 of C x,C y,C z,C w", "out 1 of C x,C y,C z,C w where x.0<w.0");
        BagPlanner x = PLAIN.planner("out 1 of A x,A y where x.0=y.0");
        CHECK.due("before there is a key", x.sources(0), 2);
        x.key(0, 0);
        CHECK.due("with the key", x.sources(0), 1);
    }

    private static void noSourcesWhenEmpty() {
        PLAIN.sources(0, "out 1 of A x,B y,C z where 1=2", "set out 1 of A x,B y where x.0<x.0",
            "out 1 of A x where 1<1");
        PLAIN.sources(1, "out 1 of A x where 1=1", "out 1 of A x where x.0<x.1 and x.1<x.0", "out 1 of A x where 0<1");
        BagPlanner x = PLAIN.planner("out x.0 of A x");
        CHECK.due("a table without rows does not make it EMPTY", x.sources(0), 1);
    }

    private static void sourcesOfNone() {
        for (int count = 0; count <= 4; count++) {
            BagPlanner x = PLAIN.planner();
            for (int q = 0; q < count; q++) {
                Check.ask(x, "out 1 of A x,A y");
                CHECK.due("sources(" + q + ")", x.sources(q), 2);
            }
            for (int q : new int[] {Integer.MIN_VALUE, -1, count, 4, 5, 256, Integer.MAX_VALUE}) {
                CHECK.dueThrow("sources(" + q + ") of " + count, Check.ARGUMENT, () -> x.sources(q));
            }
        }
    }

    private static void sourcesOfMoreBlocks() {
        BagPlanner x = PLAIN.planner("out 1 of A x+out 1 of A x", "out 1 of A x",
            "out 1 of A x-out 1 of A x-out 1 of A x", "out 1 of A x where 1=2^out 1 of A x");
        CHECK.dueThrow("of two blocks", Check.UNSUPPORTED, () -> x.sources(0));
        CHECK.due("of one block", x.sources(1), 1);
        CHECK.dueThrow("of three blocks", Check.UNSUPPORTED, () -> x.sources(2));
        CHECK.dueThrow("of two, one of them EMPTY", Check.UNSUPPORTED, () -> x.sources(3));
        CHECK.dueThrow("of none", Check.ARGUMENT, () -> x.sources(4));
    }
}
