/** The boundaries that the document names for the text's characters: promises 6 and 7, write and wipe. */
public final class TextEdgesTest {
    private static final Check CHECK = new Check();
    private static final Sentences DOCUMENT = new Sentences(CHECK);

    public static void main(String[] args) {
        DOCUMENT.test("Terms", "a row of at most 200 characters", TextEdgesTest::questionOfTwoHundred);
        DOCUMENT.test("Terms", "with codes 32 .. 126", TextEdgesTest::everyCode);
        DOCUMENT.test(6, "Adds up to eight characters to the text", TextEdgesTest::upToEight);
        DOCUMENT.test(6, "the bytes of the long, from the lowest on", TextEdgesTest::fromTheLowest);
        DOCUMENT.test(6, "but for those that are 0", TextEdgesTest::zerosAnywhere);
        DOCUMENT.test(6, "False, adding nothing, if one is not 32 .. 126", TextEdgesTest::wrongCharacterAnywhere);
        DOCUMENT.test(6, "or they would be more than 200", TextEdgesTest::moreThanTwoHundred);
        DOCUMENT.test(7, "Makes the text empty", TextEdgesTest::emptyAfterWipe);
        DOCUMENT.test(7, "how many characters it had", TextEdgesTest::charactersWiped);
        CHECK.end();
    }

    /** An object with a table A and a text of this many blanks. */
    private static BagPlanner withBlanks(int length) {
        BagPlanner x = Check.withTables(1);
        Check.write(x, " ".repeat(length));
        return x;
    }

    private static void questionOfTwoHundred() {
        String end = "out 7 of A x";
        BagPlanner x = withBlanks(200 - end.length());
        CHECK.due("up to 200", Check.write(x, end), true);
        CHECK.due("all 200 are read", x.question(), 0);
        BagPlanner y = withBlanks(200 - end.length());
        Check.write(y, "out 7 of A ");
        CHECK.due("the 200th and one more", y.write(Check.pack("xy")), false);
        CHECK.dueThrow("without the 200th", Check.ARGUMENT, y::question);
        CHECK.due("it ends at 199", y.place(), 199);
        CHECK.due("the 200th alone", y.write('x'), true);
        CHECK.due("it is read", y.question(), 0);
        CHECK.due("there is room for 200 again", Check.write(y, " ".repeat(200)), true);
        CHECK.due("but not for 201", y.write(' '), false);
        for (char c : "A9,;".toCharArray()) {
            BagPlanner z = Check.withTables(1);
            Check.write(z, (c + "-").repeat(100));
            CHECK.dueThrow("200 tokens", Check.ARGUMENT, z::question);
            CHECK.due("of which the first is wrong", z.place(), 0);
        }
    }

    private static void everyCode() {
        for (int code = 1; code < 256; code++) {
            BagPlanner x = new BagPlanner();
            boolean good = code >= 32 && code <= 126;
            CHECK.due("code " + code, x.write(code), good);
            CHECK.due("length after code " + code, x.wipe(), good ? 1 : 0);
        }
    }

    private static void upToEight() {
        for (int count = 0; count <= 8; count++) {
            BagPlanner x = new BagPlanner();
            CHECK.due("write " + count, x.write(Check.pack("abcdefgh".substring(0, count))), true);
            CHECK.due("it added " + count, x.wipe(), count);
        }
    }

    private static void fromTheLowest() {
        BagPlanner x = Check.withTables(1);
        CHECK.due("o u t blank 7 blank o f", x.write(0x666f20372074756fL), true);
        CHECK.due("blank A blank x", x.write(0x78204120L), true);
        CHECK.due("it reads", x.question(), 0);
        BagPlanner y = Check.withTables(1);
        y.write(0x6f7574203720666fL);
        CHECK.dueThrow("from the highest on", Check.ARGUMENT, y::question);
        CHECK.due("it begins with of", y.place(), 0);
    }

    private static void zerosAnywhere() {
        for (int first = 0; first < 6; first++) {
            for (int second = first + 1; second < 7; second++) {
                for (int third = second + 1; third < 8; third++) {
                    BagPlanner x = Check.withTables(1);
                    long packed = (long) 'o' << 8 * first | (long) 'u' << 8 * second | (long) 't' << 8 * third;
                    CHECK.due("o u t at " + first + second + third, x.write(packed), true);
                    CHECK.due("the rest", Check.write(x, " 1 of A x"), true);
                    CHECK.due("it reads with zeros", Check.outcome(x::question), "0");
                }
            }
        }
        BagPlanner x = new BagPlanner();
        CHECK.due("zeros alone", x.write(0), true);
        CHECK.due("they add nothing", x.wipe(), 0);
    }

    private static void wrongCharacterAnywhere() {
        for (int code : new int[] {1, 9, 10, 31, 127, 128, 160, 254, 255}) {
            for (int at = 0; at < 8; at++) {
                wrongCharacter(code, at);
            }
        }
        for (int code : new int[] {32, 33, 125, 126}) {
            for (int at = 0; at < 8; at++) {
                BagPlanner x = new BagPlanner();
                CHECK.due(code + " at " + at, x.write(with(code, at, Check.pack("        "))), true);
                CHECK.due("all eight were added", x.wipe(), 8);
            }
        }
        CHECK.due("all wrong", new BagPlanner().write(-1), false);
        CHECK.due("the highest bit alone", new BagPlanner().write(Long.MIN_VALUE), false);
    }

    private static void wrongCharacter(int code, int at) {
        BagPlanner x = Check.withTables(1);
        Check.write(x, "out 7 of");
        CHECK.due(code + " at " + at, x.write(with(code, at, Check.pack("99999999"))), false);
        CHECK.due(code + " at " + at + " among zeros", x.write((long) code << 8 * at), false);
        CHECK.due("the rest", Check.write(x, " A x"), true);
        CHECK.due("nothing was added by " + code + " at " + at, Check.outcome(x::question), "0");
    }

    private static long with(int code, int at, long packed) {
        return packed & ~(255L << 8 * at) | (long) code << 8 * at;
    }

    private static void moreThanTwoHundred() {
        for (int there = 191; there <= 200; there++) {
            for (int more = 0; more <= 8; more++) {
                BagPlanner x = withBlanks(there);
                boolean fits = there + more <= 200;
                CHECK.due(there + " and " + more, x.write(Check.pack("abcdefgh".substring(0, more))), fits);
                CHECK.due("length after " + there + " and " + more, x.wipe(), fits ? there + more : there);
            }
        }
        BagPlanner x = withBlanks(199);
        CHECK.due("one among zeros fits", x.write((long) 'x' << 56), true);
        CHECK.due("one more among zeros", x.write((long) 'x' << 56), false);
        CHECK.due("none more", x.write(0), true);
        CHECK.due("a wrong one", x.write(127), false);
        CHECK.due("200 are there", x.wipe(), 200);
    }

    private static void emptyAfterWipe() {
        BagPlanner x = withBlanks(200);
        x.wipe();
        CHECK.due("once more", x.wipe(), 0);
        CHECK.dueThrow("an empty text", Check.ARGUMENT, x::question);
        CHECK.due("it ends at once", x.place(), 0);
        Check.write(x, "out out out");
        x.wipe();
        CHECK.due("a shorter text behind a longer one", Check.ask(x, "out 1 of A x"), 0);
        CHECK.due("200 fit in again", Check.write(x, "a".repeat(200)), true);
    }

    private static void charactersWiped() {
        for (int length : new int[] {0, 1, 2, 7, 8, 9, 127, 128, 199, 200}) {
            CHECK.due("blanks", withBlanks(length).wipe(), length);
        }
        BagPlanner x = withBlanks(3);
        x.write(31);
        CHECK.due("a refused character is not there", x.wipe(), 3);
        Check.ask(x, "out 1 of A x");
        CHECK.due("a text that was read is not there", x.wipe(), 0);
    }
}
