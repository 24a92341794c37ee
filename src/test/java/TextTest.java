/** Promises 6 and 7: write and wipe. */
public final class TextTest {
    private static final Check CHECK = new Check();

    public static void main(String[] args) {
        order();
        zeros();
        wrongCharacters();
        fullText();
        wipeText();
        CHECK.end();
    }

    private static void order() {
        BagPlanner x = Check.withTables(1);
        CHECK.due("write", x.write(0x2078206f2074756fL), true);
        x.wipe();
        // o u t blank 7 blank o f, and then blank A blank x: the lowest byte comes first.
        CHECK.due("write the first eight", x.write(0x666f20372074756fL), true);
        CHECK.due("write four more", x.write(0x78204120L), true);
        CHECK.due("it reads", x.question(), 0);
        CHECK.due("sources", x.sources(0), 1);
        CHECK.due("the text is empty then", x.wipe(), 0);
    }

    private static void zeros() {
        BagPlanner x = Check.withTables(1);
        CHECK.due("write nothing", x.write(0), true);
        CHECK.due("nothing was added", x.wipe(), 0);
        CHECK.due("zeros between", x.write(0x7400750000006f00L), true);
        CHECK.due("they are not added", Check.write(x, " 7 of A x"), true);
        CHECK.due("it reads", x.question(), 0);
    }

    private static void wrongCharacters() {
        for (int code = 1; code < 256; code++) {
            BagPlanner x = new BagPlanner();
            for (int at = 0; at < 8; at++) {
                boolean good = code >= 32 && code <= 126;
                long packed = 0x6161616161616161L & ~(255L << (8 * at)) | (long) code << (8 * at);
                CHECK.due("write character " + code + " at " + at, x.write(packed), good);
                CHECK.due("wipe after character " + code, x.wipe(), good ? 8 : 0);
            }
        }
        CHECK.due("write -1", new BagPlanner().write(-1), false);
    }

    private static void fullText() {
        BagPlanner x = new BagPlanner();
        for (int i = 0; i < 24; i++) {
            x.write(Check.pack("        "));
        }
        CHECK.due("up to 199", x.write(Check.pack("       ")), true);
        CHECK.due("two more than 199", x.write(Check.pack("  ")), false);
        CHECK.due("the two hundredth", x.write(' '), true);
        CHECK.due("one more", x.write(' '), false);
        CHECK.due("one more behind zeros", x.write((long) ' ' << 56), false);
        CHECK.due("none more", x.write(0), true);
        CHECK.dueThrow("blanks are no question", Check.ARGUMENT, x::question);
        CHECK.due("it ends too early", x.place(), 200);
        CHECK.due("it had", x.wipe(), 200);
        Check.write(x, "x".repeat(196));
        CHECK.due("eight at 196", x.write(Check.pack("xxxxxxxx")), false);
        CHECK.due("none of them was added", x.write(Check.pack("xxxx")), true);
        CHECK.due("200 again", x.wipe(), 200);
    }

    private static void wipeText() {
        BagPlanner x = Check.withTables(1);
        Check.write(x, "out 1 of");
        CHECK.due("wipe", x.wipe(), 8);
        CHECK.due("wipe again", x.wipe(), 0);
        Check.write(x, "out 2 of A x");
        CHECK.due("nothing of the text before is left", x.question(), 0);
    }
}
