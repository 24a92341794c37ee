/** The boundaries of what is a token, a block and a question, as the document's terms name them. */
public final class GrammarEdgesTest {
    private static final Check CHECK = new Check();
    private static final Sentences DOCUMENT = new Sentences(CHECK);
    private static final Reading READ = new Reading(CHECK);

    public static void main(String[] args) {
        tokens();
        questions();
        blocks();
        sources();
        values();
        CHECK.end();
    }

    private static void tokens() {
        DOCUMENT.test("Terms", "TOKENS, each as long as can be", GrammarEdgesTest::longTokens);
        DOCUMENT.test("Terms", "words (letters a .. z)", GrammarEdgesTest::letters);
        DOCUMENT.test("Terms", "capitals A .. Z (one each)", GrammarEdgesTest::capitals);
        DOCUMENT.test("Terms", "numbers (one to three decimals", GrammarEdgesTest::oneToThreeDecimals);
        DOCUMENT.test("Terms", "more than three in a row are no token", GrammarEdgesTest::fourDecimals);
        DOCUMENT.test("Terms", "and the signs = < , . + - ^", GrammarEdgesTest::otherSigns);
        DOCUMENT.test("Terms", "with blanks between where one wants", GrammarEdgesTest::blanks);
    }

    private static void questions() {
        DOCUMENT.test("Terms", "It is a QUESTION if it is a block", GrammarEdgesTest::oneBlock);
        DOCUMENT.test("Terms", "and at most two times + or - or ^ and another block", GrammarEdgesTest::twoMoreBlocks);
        DOCUMENT.test("Terms", "all blocks with as many outputs", GrammarEdgesTest::asManyOutputs);
    }

    private static void blocks() {
        DOCUMENT.test("Terms", "block: set, or not that; then out", GrammarEdgesTest::otherWords);
        DOCUMENT.test("Terms", "block: set, or not that", GrammarEdgesTest::setOrNot);
        DOCUMENT.test("Terms", "then out, and one to three values with , between", GrammarEdgesTest::oneToThreeOutputs);
        DOCUMENT.test("Terms", "then of, and one to four sources with , between", GrammarEdgesTest::oneToFourSources);
        DOCUMENT.test("Terms", "then perhaps where, and one to six conditions with the word and between",
            GrammarEdgesTest::oneToSixConditions);
        DOCUMENT.test("Terms", "condition: value = value, or value < value", GrammarEdgesTest::equalOrLess);
    }

    private static void sources() {
        DOCUMENT.test("Terms", "source: the capital of a table that there is", GrammarEdgesTest::tableThatThereIs);
        DOCUMENT.test("Terms", "a name: a word of one letter", GrammarEdgesTest::oneLetter);
        DOCUMENT.test("Terms", "another one for each source of the block", GrammarEdgesTest::anotherName);
    }

    private static void values() {
        DOCUMENT.test("Terms", "value: name . column (a number) of one of the block's sources",
            GrammarEdgesTest::columnOfASource);
        DOCUMENT.test("Terms", "the column being one that its table has", GrammarEdgesTest::columnThatTheTableHas);
        DOCUMENT.test("Terms", "or a number; or - and a number", GrammarEdgesTest::numbersAsValues);
        DOCUMENT.test("Terms", "A name that is used in outputs may come as a source behind them.",
            GrammarEdgesTest::namesBeforeTheirSources);
    }

    private static void longTokens() {
        READ.good("out 1of A x", "out 1 ofA x", "out 1 of Ax where x.0=1and 1=1", "out x.0of A x,B y",
            "set out-1of Ax+set out-1of Ax");
        READ.wrong("|outx.0 of A x", "|setout 1 of A x", "out |xof.0 of A x", "out 1 of A |xwhere 1=1",
            "out 1 of A x |wherex.0=1", "out 1 of A x where 1=1 |andx.0=1", "out x|0 of A x",
            "out 1 of A x where 1=x|0", "|sets out 1 of A x", "|ou 1 of A x", "|outs 1 of A x", "out 1 |o A x",
            "out 1 |off A x", "out 1 of A x |wher 1=1", "out 1 of A x |wheres 1=1", "out 1 of A x where 1=1 |an 1=1",
            "out 1 of A x where 1=1 |ands 1=1");
    }

    private static void letters() {
        for (char letter = 'a'; letter <= 'z'; letter++) {
            READ.good("out " + letter + ".0 of A " + letter);
        }
        READ.wrong("out |`.0 of A x", "out |{.0 of A x", "out 1 of A |`", "out 1 of A |{", "out 1 of A x|{",
            "out 1 of A x|`", "out|` 1 of A x", "|`out 1 of A x", "out|{ 1 of A x", "|Out 1 of A x", "|OUT 1 of A x",
            "|oUT 1 of A x", "|SET out 1 of A x", "out 1 |OF A x", "out 1 of |a x", "out 1 of A |X",
            "out |X.0 of A x");
    }

    /** Each letter of each word that a block is written with, put in another one's place, makes it another word. */
    private static void otherWords() {
        String text = "set out 1 of A x where 1=1 and 1=1";
        for (String word : new String[] {"set", "out", "of", "where", "and"}) {
            int at = text.indexOf(word);
            for (int i = 0; i < word.length(); i++) {
                for (char other : new char[] {'a', 'q', 'z', 'A', (char) (word.charAt(i) + 1)}) {
                    StringBuilder wrong = new StringBuilder(text);
                    wrong.setCharAt(at + i, other);
                    if (wrong.charAt(at + i) != text.charAt(at + i)) {
                        READ.place(wrong.toString(), at);
                    }
                }
            }
        }
        READ.good(text);
    }

    private static void capitals() {
        BagPlanner x = Check.withTables(1, 1, 1, 1);
        Check.write(x, "out 1 of Aw,Bx,Cy,Dz");
        CHECK.due("A to D, each one capital", Check.outcome(x::question), "0");
        READ.wrong("out 1 of A|B x", "out 1 of A|A", "out 1 of |@ x", "out 1 of |[ x", "out 1 of A x,|Z y", "|Z",
            "out |A", "out 1 |A x", "out 1 of A x |A", "out 1 of A x |Z y");
    }

    private static void oneToThreeDecimals() {
        READ.good("out 0 of A x", "out 9 of A x", "out 10,99,100 of A x", "out 000,001,999 of A x",
            "out x.0,x.00,x.000 of A x", "out x.02 of A x", "out 1 of A x where 999=-999");
        READ.wrong("out |/ of A x", "out |: of A x", "out 1|/ of A x", "out 1|: of A x", "out 12 |3 of A x",
            "out 1 |2 of A x", "out x.0 |0 of A x", "out x. |of A x");
    }

    private static void fourDecimals() {
        READ.wrong("out |1000 of A x", "out |0000 of A x", "out |0001 of A x", "out -|1000 of A x",
            "out x.|0000 of A x", "out |1234567890123456789012345678901234567890 of A x", "out 1 of A x where |1000=1",
            "out 1 of A x where 1<|1000", "out 1 of A x |1000", "out 1,|9999", "out |9999999");
        READ.good("out 100,0 of A x", "out 999 of A x where 999=999 and 000<999");
    }

    private static void otherSigns() {
        READ.good("out x.0,-1 of A x,B y where x.0=y.0 and x.1<y.1+out 1,2 of A x^out 1,2 of A x",
            "out 1 of A x-out 1 of A x");
        for (char c = 33; c <= 126; c++) {
            boolean other = "=<,.+-^".indexOf(c) < 0 && !Character.isLetterOrDigit(c);
            if (other) {
                READ.place(c + "out 1 of A x", 0);
                READ.place("out " + c + "1 of A x", 4);
                READ.place("out 1" + c + "of A x", 5);
                READ.place("out 1 of A x " + c, 13);
                READ.place("out 1 of A x where 1" + c + "1", 20);
            }
        }
    }

    private static void blanks() {
        READ.good("out x.0,-1 of Ax,By where x.0=y.0and-1<2+out-1,-2of Ax",
            " out x . 0 , - 1 of A x , B y where x . 0 = y . 0 and - 1 < 2 + out - 1 , - 2 of A x ",
            "     out     1     of     A     x     ", "out 1 of A x" + " ".repeat(188),
            " ".repeat(188) + "out 1 of A x");
        READ.wrong("|o ut 1 of A x", "out 1 |o f A x", "|s et out 1 of A x", "out 1 |0 of A x", "out x.0 |0 of A x",
            "out 1 of A x |w here 1=1");
    }

    private static void oneBlock() {
        READ.good("out 1 of A x");
        READ.place("", 0);
        READ.place(" ", 1);
        READ.place(" ".repeat(200), 200);
        READ.wrong("|+", "|+out 1 of A x", "|- out 1 of A x", "|^ out 1 of A x", "out 1 of A x |out 1 of A x",
            "out 1 of A x |set out 1 of A x", "out 1 of A x, |out 1 of A x", "|where 1=1", "|of A x", "|1", "|x",
            "|A");
    }

    private static void twoMoreBlocks() {
        String block = "out 1 of A x";
        for (char first : "+-^".toCharArray()) {
            READ.good(block + first + block);
            READ.place(block + first, 13);
            READ.place(block + first + first + block, 13);
            for (char second : "+-^".toCharArray()) {
                READ.good(block + first + block + second + block);
                READ.place(block + first + block + second, 26);
                for (char third : "+-^".toCharArray()) {
                    READ.place(block + first + block + second + block + third + block, 38);
                    READ.place(block + first + block + second + block + third, 38);
                }
            }
        }
        READ.wrong(block + "|=" + block, block + "|<" + block, block + "|." + block, block + "|*" + block);
    }

    private static void asManyOutputs() {
        String[] blocks = {"out 1 of A x", "out 1,2 of A x", "out 1,2,3 of A x"};
        for (int first = 0; first < 3; first++) {
            for (int second = 0; second < 3; second++) {
                String two = blocks[first] + "+" + blocks[second];
                int startOfSecond = blocks[first].length() + 1;
                READ.place(two, first == second ? -1 : startOfSecond);
                for (int third = 0; third < 3; third++) {
                    int startOfThird = two.length() + 1;
                    READ.place(two + "^" + blocks[third],
                        first != second ? startOfSecond : first != third ? startOfThird : -1);
                }
            }
        }
    }

    private static void setOrNot() {
        READ.good("set out 1 of A x", "out 1 of A x", "set out 1 of A x+out 1 of A x-set out 1 of A x",
            "out 1 of A x+set out 1 of A x-out 1 of A x");
        READ.wrong("set |set out 1 of A x", "set |1 of A x", "out |set 1 of A x", "out 1 of A x+set |set out 1 of A x",
            "out 1 of A x + |1", "out 1 of A x |set");
        READ.place("set", 3);
    }

    private static void oneToThreeOutputs() {
        READ.good("out 1 of A x", "out 1,2 of A x", "out 1,2,3 of A x", "out x.0,x.1,x.2 of A x");
        READ.wrong("out |of A x", "out |, 1 of A x", "out 1,|of A x", "out 1,2,|of A x", "out 1,2,3|,4 of A x",
            "out 1,2,3|, of A x", "out 1 |2 of A x", "out 1,|,2 of A x", "out 1|+2 of A x", "out x.0|.0 of A x",
            "out 1 |where 1=1", "out 1,2,3 |A x");
    }

    private static void oneToFourSources() {
        READ.good("out 1 of A x", "out 1 of A x,A y", "out 1 of A x,A y,B z", "out 1 of A x,A y,B z,B w");
        READ.wrong("out 1 of |where 1=1", "out 1 of |, A x", "out 1 of A x,|where 1=1", "out 1 of A x |A y",
            "out 1 of A x,A y,A z,A w|,A v", "out 1 of A x,A y,A z,A w|,", "out 1 of A x,|,A y",
            "out 1 of A x,|+out 1 of A x", "out 1 |A x", "out 1 |x", "out 1 of |of A x", "out 1 of A|, B y");
    }

    private static void oneToSixConditions() {
        String start = "out 1 of A x where 1=1";
        StringBuilder text = new StringBuilder(start);
        for (int count = 1; count <= 6; count++) {
            READ.good(text.toString(), text + "+out 1 of A x", text + " - out 1 of A x");
            text.append(count < 6 ? " and 1<2" : "");
        }
        READ.place(text + " and 1<2", text.length() + 1);
        READ.place(text + " and", text.length() + 1);
        READ.good("out 1 of A x");
        READ.wrong("out 1 of A x where |and 1=1", "out 1 of A x where |+out 1 of A x", "out 1 of A x |and 1=1",
            start + " and |and 1=1", start + "|,1=1", start + " |1=1", start + " and |where 1=1",
            start + " |where 1=1", start + " |or 1=1", "out 1 of A x where |where 1=1", "out 1 |where 1=1",
            "out 1 of A x where |out 1 of A x");
        READ.place("out 1 of A x where", 18);
        READ.place(start + " and", 26);
    }

    private static void equalOrLess() {
        READ.good("out 1 of A x where 1=2", "out 1 of A x where 1<2", "out 1 of A x where x.0<x.0",
            "out 1 of A x where -1=-1");
        READ.wrong("out 1 of A x where 1|>2", "out 1 of A x where 1=|=2", "out 1 of A x where 1<|=2",
            "out 1 of A x where 1<|<2", "out 1 of A x where 1=|<2", "out 1 of A x where 1|!=2",
            "out 1 of A x where 1|-2", "out 1 of A x where 1|,2", "out 1 of A x where 1 |and 2=2",
            "out 1 of A x where 1 |2", "out 1 of A x where 1=2|=3", "out 1 of A x where 1<2|<3",
            "out 1 of A x where |=2", "out 1 of A x where |<2", "out 1 of A x where 1=|+out 1 of A x");
        READ.place("out 1 of A x where 1=", 21);
        READ.place("out 1 of A x where 1<", 21);
        READ.place("out 1 of A x where 1", 20);
    }

    private static void tableThatThereIs() {
        for (int tables = 0; tables <= 4; tables++) {
            for (char capital = 'A'; capital <= 'Z'; capital++) {
                BagPlanner x = new BagPlanner();
                for (int i = 0; i < tables; i++) {
                    x.table(1);
                }
                Check.write(x, "out 1 of " + capital + " x");
                boolean there = capital < 'A' + tables;
                CHECK.due(capital + " of " + tables + " tables", Check.outcome(x::question),
                    there ? "0" : "throws.IllegalArgumentException");
                CHECK.due("place with " + capital + " of " + tables, x.place(), there ? -1 : 9);
            }
        }
        READ.wrong("out 1 of A x,|C y", "out 1 of A x,A y,B z,|D w", "out z.0 of |C z",
            "out 1 of A x + out 1 of |C x");
    }

    private static void oneLetter() {
        READ.good("out a.0 of A a", "out z.0 of A z", "out o.0 of A o,B s where s.0=o.0");
        READ.wrong("out 1 of A |xy", "out 1 of A |xx", "out 1 of A |of", "out 1 of A |where 1=1", "out 1 of A |set",
            "out 1 of A |1", "out 1 of A |,B y", "out |xx.0 of A x", "out |of.0 of A x", "out 1 of A x where |xx.0=1",
            "out 1 of A x where 1=|xx.0", "out 1 of A x where |and.0=1", "out 1 of A |.", "out |out 1 of A x");
        READ.place("out 1 of A", 10);
    }

    private static void anotherName() {
        READ.good("out 1 of A x,A y,A z,A w", "out x.0 of A x+out x.0 of A x-out x.0 of B x");
        READ.wrong("out 1 of A x,A |x", "out 1 of A x,B |x", "out 1 of A x,A y,A |x", "out 1 of A x,A y,A |y",
            "out 1 of A x,A y,A z,A |x", "out 1 of A x,A y,A z,A |y", "out 1 of A x,A y,A z,A |z",
            "out 1 of A x + out 1 of A x,B |x", "out q.9 of A x,B |x");
    }

    private static void columnOfASource() {
        READ.good("out x.0 of A x", "out w.0 of A x,A y,A z,A w", "out 1 of A x,B y where x.0=y.1");
        READ.place("out y.0 of A x", 0);
        READ.place("out 1 of A x where x.0=y.0", 0);
        READ.place("out 1 of A x where y.0=x.0", 0);
        READ.place("out y.0 of A x+out 1 of B y", 0);
        READ.place("out 1 of B y+out y.0 of A x", 13);
        READ.place("out y.0 of B y+out y.0 of A x", 15);
        READ.wrong("out x|", "out x |of A x", "out x|,0 of A x", "out x.|x of A x", "out x.|-0 of A x",
            "out x.|of A x", "out |.0 of A x", "out |A.0 of A x", "out 0|.0 of A x", "out x.|.0 of A x",
            "out x.|A of A x");
    }

    private static void columnThatTheTableHas() {
        for (int columns = 1; columns <= 3; columns++) {
            for (String column : new String[] {"0", "1", "2", "3", "4", "9", "10", "256", "999", "02"}) {
                boolean has = Integer.parseInt(column) < columns;
                columnOf(columns, "out x." + column + " of A x", has);
                columnOf(columns, "out 1 of A x where x." + column + "=1", has);
                columnOf(columns, "out 1 of A x where 1<x." + column, has);
            }
        }
        READ.good("out x.2,y.1 of A x,B y");
        READ.place("out x.1,y.2 of A x,B y", 0);
        READ.place("out x.2,y.1 of B x,A y", 0);
    }

    private static void columnOf(int columns, String text, boolean has) {
        BagPlanner x = Check.withTables(columns);
        Check.write(x, text);
        CHECK.due("'" + text + "' with " + columns + " columns", Check.outcome(x::question),
            has ? "0" : "throws.IllegalArgumentException");
        CHECK.due("place of '" + text + "' with " + columns + " columns", x.place(), has ? -1 : 0);
    }

    private static void numbersAsValues() {
        READ.good("out -0,-1,-999 of A x", "out 1 of A x where -1=x.0 and x.0<-2", "out-1 of A x", "out - 999 of A x");
        READ.wrong("out -|-1 of A x", "out -|x.0 of A x", "out |+1 of A x", "out -|+1 of A x", "out -|of A x",
            "out -|, 1 of A x", "out 1|-1 of A x", "out 1 of A x where -|-1=1", "out 1 of A x where 1=-|x.0",
            "out 1 of A x where 1=-|-1", "out |^1 of A x", "out -|1000 of A x");
        READ.place("out -", 5);
        BagPlanner x = Reading.planner();
        x.insert(0, 1, 2, 3);
        CHECK.due("values of numbers", Check.answerOf(x, "out -999,-0,999 of A x"), "-999,0,999*1");
        CHECK.due("- with a blank", Check.answerOf(x, "out - 007,0 of A x"), "-7,0*1");
    }

    private static void namesBeforeTheirSources() {
        READ.good("out w.0,z.0,y.0 of A x,A y,A z,A w", "out x.2 of B y,A x");
        READ.place("out v.0,z.0,y.0 of A x,A y,A z,A w", 0);
        READ.place("out w.0,z.0,v.0 of A x,A y,A z,A w", 0);
    }
}
