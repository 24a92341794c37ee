/**
 * Answers questions about tables, and proves of two questions that they always have the same answer.
 * Everything that a call works with is made once, by the constructor, and used again.
 */
public final class BagPlanner {
    private static final int MAX_TABLES = 4;
    private static final int MAX_COLUMNS = 3;
    private static final int MAX_ROWS = 8;
    private static final int MAX_TEXT = 200;
    private static final int MAX_QUESTIONS = 4;
    private static final int MAX_BLOCKS = 3;
    private static final int MAX_OUTPUTS = 3;
    private static final int MAX_SOURCES = 4;
    private static final int MAX_CONDITIONS = 6;
    private static final int MAX_DIFFERENT = 64;

    /** A block's values stand in slots: its outputs first, then both sides of each condition. */
    private static final int SLOTS = MAX_OUTPUTS + 2 * MAX_CONDITIONS;

    /** The members of a block's classes: the columns of its sources first, then its numbers. */
    private static final int COLUMN_NODES = MAX_SOURCES * MAX_COLUMNS;
    private static final int NODES = COLUMN_NODES + SLOTS;

    private static final int NOWHERE = -1;

    private final Catalog catalog;
    private final Text text;
    private final Reader reader;
    private final Question[] questions;
    private int questionCount;
    private int wrongPlace;
    private final Plan plan;
    private Bag answer;
    private Bag result;
    private final Bag side;
    private final NormalForm firstForm;
    private final NormalForm secondForm;
    private final Pairing pairing;

    public BagPlanner() {
        catalog = new Catalog();
        text = new Text();
        reader = new Reader();
        // One more than can be kept: a text is read into it even when there is no room left,
        // because a text that is no question is told first.
        questions = new Question[MAX_QUESTIONS + 1];
        for (int i = 0; i <= MAX_QUESTIONS; i++) {
            questions[i] = new Question();
        }
        questionCount = 0;
        wrongPlace = NOWHERE;
        plan = new Plan();
        answer = new Bag();
        result = new Bag();
        side = new Bag();
        firstForm = new NormalForm();
        secondForm = new NormalForm();
        pairing = new Pairing();
    }

    public int table(int columns) throws IllegalArgumentException, IllegalStateException {
        if (columns < 1 || columns > MAX_COLUMNS) {
            throw new IllegalArgumentException("a table has 1 to 3 columns");
        }
        if (catalog.count >= MAX_TABLES) {
            throw new IllegalStateException("there are 4 tables");
        }
        return catalog.make(columns);
    }

    public void key(int table, int column) throws IllegalArgumentException, IllegalStateException {
        Table found = tableWithColumn(table, column);
        if (found.hasTwins(column)) {
            throw new IllegalStateException("two rows have the same value there");
        }
        found.keys[column] = true;
    }

    public int insert(int table, int a, int b, int c) throws IllegalArgumentException, IllegalStateException {
        if (!catalog.has(table)) {
            throw new IllegalArgumentException("there is no such table");
        }
        Table found = catalog.tables[table];
        if (found.rows >= MAX_ROWS) {
            throw new IllegalStateException("the table has 8 rows");
        }
        if (found.breaksKey(a, b, c)) {
            throw new IllegalStateException("a row has the same value in a key");
        }
        return found.append(a, b, c);
    }

    public int delete(int table, int column, int value) throws IllegalArgumentException {
        return tableWithColumn(table, column).takeOut(column, value);
    }

    public boolean write(long characters) {
        return text.append(characters);
    }

    public int wipe() {
        return text.clear();
    }

    public int question() throws IllegalArgumentException, IllegalStateException {
        wrongPlace = reader.read(text, catalog, questions[questionCount]);
        if (wrongPlace != NOWHERE) {
            throw new IllegalArgumentException("the text is no question");
        }
        if (questionCount >= MAX_QUESTIONS) {
            throw new IllegalStateException("there are 4 questions");
        }
        text.clear();
        questionCount++;
        return questionCount - 1;
    }

    public int place() {
        return wrongPlace;
    }

    public int forget() {
        int forgotten = questionCount;
        questionCount = 0;
        return forgotten;
    }

    public int run(int q) throws IllegalArgumentException, UnsupportedOperationException {
        if (!answerInto(questionAt(q))) {
            throw new UnsupportedOperationException("there are more than 64 different rows");
        }
        Bag before = answer;
        answer = result;
        result = before;
        return answer.size;
    }

    public int row(int k, int c) throws IndexOutOfBoundsException {
        if (!answer.has(k) || c < 0 || c >= answer.width) {
            throw new IndexOutOfBoundsException("there is no such row or value");
        }
        return answer.values[k * MAX_OUTPUTS + c];
    }

    public int times(int k) throws IndexOutOfBoundsException {
        if (!answer.has(k)) {
            throw new IndexOutOfBoundsException("there is no such row");
        }
        return answer.counts[k];
    }

    public int total() {
        return answer.sum();
    }

    public boolean alike(int p, int q) throws IllegalArgumentException, UnsupportedOperationException {
        Question first = questionAt(p);
        Question second = questionAt(q);
        firstForm.build(onlyBlock(first), catalog);
        secondForm.build(onlyBlock(second), catalog);
        return pairing.exists(firstForm, secondForm);
    }

    public int sources(int q) throws IllegalArgumentException, UnsupportedOperationException {
        firstForm.build(onlyBlock(questionAt(q)), catalog);
        return firstForm.empty ? 0 : firstForm.leftCount;
    }

    private Table tableWithColumn(int table, int column) {
        if (!catalog.has(table) || !catalog.tables[table].hasColumn(column)) {
            throw new IllegalArgumentException("there is no such table or column");
        }
        return catalog.tables[table];
    }

    private Question questionAt(int q) {
        if (q < 0 || q >= questionCount) {
            throw new IllegalArgumentException("there is no such question");
        }
        return questions[q];
    }

    private static Block onlyBlock(Question question) {
        if (question.blockCount != 1) {
            throw new UnsupportedOperationException("the question has more than one block");
        }
        return question.blocks[0];
    }

    /** Leaves the question's answer in result; false if there were too many different rows on the way. */
    private boolean answerInto(Question question) {
        if (!plan.fill(result, question.blocks[0], catalog)) {
            return false;
        }
        for (int b = 1; b < question.blockCount; b++) {
            if (!plan.fill(side, question.blocks[b], catalog) || !result.join(question.signs[b - 1], side)) {
                return false;
            }
        }
        return true;
    }

    /** Rows of ints, of which no two have the same value in a key. */
    private static final class Table {
        private int columns;
        private int rows;
        private final boolean[] keys = new boolean[MAX_COLUMNS];
        private final int[] cells = new int[MAX_ROWS * MAX_COLUMNS];

        boolean hasColumn(int column) {
            return column >= 0 && column < columns;
        }

        int cell(int row, int column) {
            return cells[row * MAX_COLUMNS + column];
        }

        boolean hasTwins(int column) {
            for (int i = 0; i < rows; i++) {
                for (int j = i + 1; j < rows; j++) {
                    if (cell(i, column) == cell(j, column)) {
                        return true;
                    }
                }
            }
            return false;
        }

        boolean breaksKey(int a, int b, int c) {
            return isTaken(0, a) || isTaken(1, b) || isTaken(2, c);
        }

        private boolean isTaken(int column, int value) {
            // A column that the table has not is never a key.
            if (!keys[column]) {
                return false;
            }
            for (int i = 0; i < rows; i++) {
                if (cell(i, column) == value) {
                    return true;
                }
            }
            return false;
        }

        int append(int a, int b, int c) {
            // Values behind the table's columns lie there unseen: no column leads to them.
            int from = rows * MAX_COLUMNS;
            cells[from] = a;
            cells[from + 1] = b;
            cells[from + 2] = c;
            rows++;
            return rows;
        }

        int takeOut(int column, int value) {
            int kept = 0;
            for (int i = 0; i < rows; i++) {
                if (cell(i, column) != value) {
                    System.arraycopy(cells, i * MAX_COLUMNS, cells, kept * MAX_COLUMNS, MAX_COLUMNS);
                    kept++;
                }
            }
            int taken = rows - kept;
            rows = kept;
            return taken;
        }
    }

    /** The tables that there are. */
    private static final class Catalog {
        private final Table[] tables = new Table[MAX_TABLES];
        private int count;

        Catalog() {
            for (int i = 0; i < MAX_TABLES; i++) {
                tables[i] = new Table();
            }
        }

        boolean has(int table) {
            return table >= 0 && table < count;
        }

        int make(int columns) {
            tables[count].columns = columns;
            count++;
            return count - 1;
        }
    }

    /** The characters written so far. */
    private static final class Text {
        private static final int BYTES_OF_LONG = 8;
        private final char[] characters = new char[MAX_TEXT];
        private int length;

        boolean append(long packed) {
            int added = countOf(packed);
            if (added < 0 || length + added > MAX_TEXT) {
                return false;
            }
            for (int i = 0; i < BYTES_OF_LONG; i++) {
                int code = byteOf(packed, i);
                if (code != 0) {
                    characters[length] = (char) code;
                    length++;
                }
            }
            return true;
        }

        /** How many characters a long holds, or -1 if one of them can't stand in a text. */
        private static int countOf(long packed) {
            int count = 0;
            for (int i = 0; i < BYTES_OF_LONG; i++) {
                int code = byteOf(packed, i);
                if (code != 0 && (code < 32 || code > 126)) {
                    return -1;
                }
                count += code == 0 ? 0 : 1;
            }
            return count;
        }

        private static int byteOf(long packed, int i) {
            return (int) (packed >>> (8 * i)) & 255;
        }

        int clear() {
            int had = length;
            length = 0;
            return had;
        }

        /** Where the run of characters between low and high that begins at from ends. */
        int endOfRun(int from, char low, char high) {
            int end = from;
            while (end < length && characters[end] >= low && characters[end] <= high) {
                end++;
            }
            return end;
        }

        boolean isWord(int from, int end, String word) {
            if (end - from != word.length()) {
                return false;
            }
            for (int i = 0; i < word.length(); i++) {
                if (characters[from + i] != word.charAt(i)) {
                    return false;
                }
            }
            return true;
        }

        int number(int from, int end) {
            int number = 0;
            for (int i = from; i < end; i++) {
                number = number * 10 + (characters[i] - '0');
            }
            return number;
        }
    }

    /** The tokens of a text, and which of them is to be read next. A sign's kind is its character. */
    private static final class Tokens {
        private static final int END = 0;
        private static final int BAD = 1;
        private static final int WORD = 2;
        private static final int NAME = 3;
        private static final int CAPITAL = 4;
        private static final int NUMBER = 5;
        private static final int SET = 6;
        private static final int OUT = 7;
        private static final int OF = 8;
        private static final int WHERE = 9;
        private static final int AND = 10;
        private static final int MAX_DECIMALS = 3;
        private static final String SIGNS = "=<,.+-^";

        private final int[] kinds = new int[MAX_TEXT + 1];
        private final int[] starts = new int[MAX_TEXT + 1];
        private final int[] values = new int[MAX_TEXT + 1];
        private int count;
        private int at;

        void split(Text text) {
            count = 0;
            at = 0;
            int end = 0;
            for (int i = 0; i < text.length; i++) {
                if (i >= end && text.characters[i] != ' ') {
                    end = addToken(text, i);
                }
            }
            put(END, text.length, 0);
        }

        /** Adds the token that begins at from, and tells where it ends. */
        private int addToken(Text text, int from) {
            char c = text.characters[from];
            if (c >= 'a' && c <= 'z') {
                int end = text.endOfRun(from, 'a', 'z');
                put(wordKind(text, from, end), from, c);
                return end;
            }
            if (c >= '0' && c <= '9') {
                int end = text.endOfRun(from, '0', '9');
                boolean fits = end - from <= MAX_DECIMALS;
                put(fits ? NUMBER : BAD, from, fits ? text.number(from, end) : 0);
                return end;
            }
            if (c >= 'A' && c <= 'Z') {
                put(CAPITAL, from, c - 'A');
            } else {
                put(SIGNS.indexOf(c) >= 0 ? c : BAD, from, 0);
            }
            return from + 1;
        }

        private static int wordKind(Text text, int from, int end) {
            if (end - from == 1) {
                return NAME;
            }
            if (text.isWord(from, end, "set")) {
                return SET;
            }
            if (text.isWord(from, end, "out")) {
                return OUT;
            }
            if (text.isWord(from, end, "of")) {
                return OF;
            }
            if (text.isWord(from, end, "where")) {
                return WHERE;
            }
            return text.isWord(from, end, "and") ? AND : WORD;
        }

        private void put(int kind, int start, int value) {
            kinds[count] = kind;
            starts[count] = start;
            values[count] = value;
            count++;
        }

        boolean is(int kind) {
            return kinds[at] == kind;
        }

        int kind() {
            return kinds[at];
        }

        int start() {
            return starts[at];
        }

        int value() {
            return values[at];
        }

        /** Whether the next token is of a kind; if so, it has been read. */
        boolean take(int kind) {
            if (kinds[at] != kind) {
                return false;
            }
            // The end stays the next token, however often it is taken.
            if (at + 1 < count) {
                at++;
            }
            return true;
        }
    }

    /** Reads a text as a question. Where it can't go on, the next token is the one that is wrong. */
    private static final class Reader {
        private final Tokens tokens = new Tokens();

        /** The place at which the text is no question, or NOWHERE if it is one. */
        int read(Text text, Catalog catalog, Question question) {
            tokens.split(text);
            question.blockCount = 0;
            for (int b = 0; b < MAX_BLOCKS; b++) {
                int start = tokens.start();
                Block block = question.blocks[b];
                if (!readBlock(block, catalog) || !isBehindBlock()) {
                    return tokens.start();
                }
                if (!block.bind(catalog) || block.outputCount != question.blocks[0].outputCount) {
                    return start;
                }
                question.blockCount++;
                if (tokens.is(Tokens.END)) {
                    return NOWHERE;
                }
                if (b + 1 < MAX_BLOCKS) {
                    question.signs[b] = tokens.kind();
                    tokens.take(tokens.kind());
                }
            }
            return tokens.start();
        }

        private boolean isBehindBlock() {
            return tokens.is(Tokens.END) || tokens.is('+') || tokens.is('-') || tokens.is('^');
        }

        private boolean readBlock(Block block, Catalog catalog) {
            block.clear();
            block.set = tokens.take(Tokens.SET);
            return tokens.take(Tokens.OUT) && readOutputs(block)
                && tokens.take(Tokens.OF) && readSources(block, catalog)
                && (!tokens.take(Tokens.WHERE) || readConditions(block));
        }

        private boolean readOutputs(Block block) {
            boolean more = true;
            for (int i = 0; i < MAX_OUTPUTS && more; i++) {
                if (!readValue(block, i)) {
                    return false;
                }
                block.outputCount++;
                more = i + 1 < MAX_OUTPUTS && tokens.take(',');
            }
            return true;
        }

        private boolean readSources(Block block, Catalog catalog) {
            boolean more = true;
            for (int i = 0; i < MAX_SOURCES && more; i++) {
                int table = tokens.value();
                if (!tokens.is(Tokens.CAPITAL) || !catalog.has(table)) {
                    return false;
                }
                tokens.take(Tokens.CAPITAL);
                int name = tokens.value();
                if (!tokens.is(Tokens.NAME) || block.sourceNamed(name) >= 0) {
                    return false;
                }
                tokens.take(Tokens.NAME);
                block.addSource(table, name);
                more = i + 1 < MAX_SOURCES && tokens.take(',');
            }
            return true;
        }

        private boolean readConditions(Block block) {
            boolean more = true;
            for (int i = 0; i < MAX_CONDITIONS && more; i++) {
                if (!readValue(block, Block.lowSlot(i))) {
                    return false;
                }
                block.less[i] = tokens.take('<');
                if (!block.less[i] && !tokens.take('=')) {
                    return false;
                }
                if (!readValue(block, Block.highSlot(i))) {
                    return false;
                }
                block.conditionCount++;
                more = i + 1 < MAX_CONDITIONS && tokens.take(Tokens.AND);
            }
            return true;
        }

        private boolean readValue(Block block, int slot) {
            boolean minus = tokens.take('-');
            int value = tokens.value();
            if (tokens.take(Tokens.NUMBER)) {
                block.putNumber(slot, minus ? -value : value);
                return true;
            }
            if (minus || !tokens.take(Tokens.NAME) || !tokens.take('.')) {
                return false;
            }
            block.putColumn(slot, value, tokens.value());
            return tokens.take(Tokens.NUMBER);
        }
    }

    /** One to three blocks, and the signs between them. */
    private static final class Question {
        private int blockCount;
        private final Block[] blocks = new Block[MAX_BLOCKS];
        private final int[] signs = new int[MAX_BLOCKS - 1];

        Question() {
            for (int i = 0; i < MAX_BLOCKS; i++) {
                blocks[i] = new Block();
            }
        }
    }

    /** A block as it was read. A slot holds a number, or a column of a source. */
    private static final class Block {
        private static final int NO_SOURCE = -1;
        private static final int NO_NAME = 0;

        private boolean set;
        private int outputCount;
        private int sourceCount;
        private int conditionCount;
        private final int[] sourceTables = new int[MAX_SOURCES];
        private final int[] sourceNames = new int[MAX_SOURCES];
        private final boolean[] less = new boolean[MAX_CONDITIONS];
        private final int[] slotNames = new int[SLOTS];
        private final int[] slotSources = new int[SLOTS];
        private final int[] slotNumbers = new int[SLOTS];

        static int lowSlot(int condition) {
            return MAX_OUTPUTS + 2 * condition;
        }

        static int highSlot(int condition) {
            return lowSlot(condition) + 1;
        }

        void clear() {
            set = false;
            outputCount = 0;
            sourceCount = 0;
            conditionCount = 0;
        }

        boolean isUsed(int slot) {
            return slot < MAX_OUTPUTS ? slot < outputCount : slot < lowSlot(conditionCount);
        }

        int sourceNamed(int name) {
            for (int i = 0; i < sourceCount; i++) {
                if (sourceNames[i] == name) {
                    return i;
                }
            }
            return NO_SOURCE;
        }

        void addSource(int table, int name) {
            sourceTables[sourceCount] = table;
            sourceNames[sourceCount] = name;
            sourceCount++;
        }

        void putNumber(int slot, int number) {
            slotNames[slot] = NO_NAME;
            slotSources[slot] = NO_SOURCE;
            slotNumbers[slot] = number;
        }

        void putColumn(int slot, int name, int column) {
            slotNames[slot] = name;
            slotSources[slot] = NO_SOURCE;
            slotNumbers[slot] = column;
        }

        /** Finds the sources of all names: outputs may name sources that stand behind them. */
        boolean bind(Catalog catalog) {
            for (int slot = 0; slot < SLOTS; slot++) {
                if (isUsed(slot) && slotNames[slot] != NO_NAME) {
                    int source = sourceNamed(slotNames[slot]);
                    if (source < 0 || !catalog.tables[sourceTables[source]].hasColumn(slotNumbers[slot])) {
                        return false;
                    }
                    slotSources[slot] = source;
                }
            }
            return true;
        }
    }

    /** At most 64 different rows in their order, and how often each is there. */
    private static final class Bag {
        private int width;
        private int size;
        private final int[] values = new int[MAX_DIFFERENT * MAX_OUTPUTS];
        private final int[] counts = new int[MAX_DIFFERENT];

        void clear(int newWidth) {
            width = newWidth;
            size = 0;
        }

        boolean has(int k) {
            return k >= 0 && k < size;
        }

        int sum() {
            int sum = 0;
            for (int k = 0; k < size; k++) {
                sum += counts[k];
            }
            return sum;
        }

        void countEachOnce() {
            for (int k = 0; k < size; k++) {
                counts[k] = 1;
            }
        }

        /** Adds the row that stands in cells behind from; false if it would be one too many. */
        boolean add(int[] cells, int from, int count) {
            int k = firstNotBefore(cells, from);
            if (k < size && compare(k, cells, from) == 0) {
                counts[k] += count;
                return true;
            }
            if (size >= MAX_DIFFERENT) {
                return false;
            }
            System.arraycopy(values, k * MAX_OUTPUTS, values, (k + 1) * MAX_OUTPUTS, (size - k) * MAX_OUTPUTS);
            System.arraycopy(counts, k, counts, k + 1, size - k);
            System.arraycopy(cells, from, values, k * MAX_OUTPUTS, width);
            counts[k] = count;
            size++;
            return true;
        }

        /** Makes this bag what comes of a sign between it and another; false if that is too large. */
        boolean join(int sign, Bag other) {
            if (sign == '+') {
                return addAll(other);
            }
            int kept = 0;
            for (int k = 0; k < size; k++) {
                int there = other.countOf(values, k * MAX_OUTPUTS);
                int count = sign == '-' ? counts[k] - there : Math.min(counts[k], there);
                if (count > 0) {
                    System.arraycopy(values, k * MAX_OUTPUTS, values, kept * MAX_OUTPUTS, width);
                    counts[kept] = count;
                    kept++;
                }
            }
            size = kept;
            return true;
        }

        private boolean addAll(Bag other) {
            for (int k = 0; k < other.size; k++) {
                if (!add(other.values, k * MAX_OUTPUTS, other.counts[k])) {
                    return false;
                }
            }
            return true;
        }

        private int countOf(int[] cells, int from) {
            int k = firstNotBefore(cells, from);
            return k < size && compare(k, cells, from) == 0 ? counts[k] : 0;
        }

        private int firstNotBefore(int[] cells, int from) {
            int low = 0;
            int high = size;
            // Halving at most 64 rows takes seven rounds.
            for (int round = 0; round < MAX_DIFFERENT && low < high; round++) {
                int middle = (low + high) / 2;
                if (compare(middle, cells, from) < 0) {
                    low = middle + 1;
                } else {
                    high = middle;
                }
            }
            return low;
        }

        private int compare(int k, int[] cells, int from) {
            for (int c = 0; c < width; c++) {
                int own = values[k * MAX_OUTPUTS + c];
                if (own != cells[from + c]) {
                    return own < cells[from + c] ? -1 : 1;
                }
            }
            return 0;
        }
    }

    /**
     * Finds the rows of a block: chooses a row for one source after the other, tests each condition as soon
     * as its sources have rows, and only counts the rows of a source that no value is of.
     */
    private static final class Plan {
        private final int[] chosen = new int[MAX_SOURCES];
        private final boolean[] used = new boolean[MAX_SOURCES];
        private final int[] lastSources = new int[MAX_CONDITIONS];
        private final int[] output = new int[MAX_OUTPUTS];

        /** Makes the bag hold the block's rows; false if it can't hold them. */
        boolean fill(Bag bag, Block block, Catalog catalog) {
            bag.clear(block.outputCount);
            markUsed(block);
            findLastSources(block);
            if (holdsAt(Block.NO_SOURCE, block, catalog) && !choose(0, 1, bag, block, catalog)) {
                return false;
            }
            if (block.set) {
                bag.countEachOnce();
            }
            return true;
        }

        private void markUsed(Block block) {
            for (int source = 0; source < MAX_SOURCES; source++) {
                used[source] = false;
            }
            for (int slot = 0; slot < SLOTS; slot++) {
                if (block.isUsed(slot) && block.slotSources[slot] >= 0) {
                    used[block.slotSources[slot]] = true;
                }
            }
        }

        private void findLastSources(Block block) {
            for (int i = 0; i < block.conditionCount; i++) {
                lastSources[i] = Math.max(
                    block.slotSources[Block.lowSlot(i)], block.slotSources[Block.highSlot(i)]);
            }
        }

        /** Goes on with rows for the sources from this one on; each way found counts weight times. */
        private boolean choose(int source, int weight, Bag bag, Block block, Catalog catalog) {
            if (source >= block.sourceCount) {
                setOutput(block, catalog);
                return bag.add(output, 0, weight);
            }
            int rows = catalog.tables[block.sourceTables[source]].rows;
            if (!used[source]) {
                return rows == 0 || choose(source + 1, weight * rows, bag, block, catalog);
            }
            for (int i = 0; i < rows; i++) {
                chosen[source] = i;
                if (holdsAt(source, block, catalog) && !choose(source + 1, weight, bag, block, catalog)) {
                    return false;
                }
            }
            return true;
        }

        private void setOutput(Block block, Catalog catalog) {
            for (int i = 0; i < block.outputCount; i++) {
                output[i] = valueOf(i, block, catalog);
            }
        }

        /** Whether the conditions are true that have this source as their last one. */
        private boolean holdsAt(int source, Block block, Catalog catalog) {
            for (int i = 0; i < block.conditionCount; i++) {
                if (lastSources[i] == source) {
                    int low = valueOf(Block.lowSlot(i), block, catalog);
                    int high = valueOf(Block.highSlot(i), block, catalog);
                    if (block.less[i] ? low >= high : low != high) {
                        return false;
                    }
                }
            }
            return true;
        }

        private int valueOf(int slot, Block block, Catalog catalog) {
            int source = block.slotSources[slot];
            int number = block.slotNumbers[slot];
            return source < 0 ? number : catalog.tables[block.sourceTables[source]].cell(chosen[source], number);
        }
    }

    /** The normal form of a block. A class is named by one of its members. */
    private static final class NormalForm {
        // No number of a text is so small: it has at most three decimals.
        private static final int NO_NUMBER = -1000;

        private boolean empty;
        private boolean set;
        private int outputCount;
        private final int[] outputs = new int[MAX_OUTPUTS];
        private int lessCount;
        private final int[] lows = new int[MAX_CONDITIONS];
        private final int[] highs = new int[MAX_CONDITIONS];
        private int leftCount;
        private final int[] leftSources = new int[MAX_SOURCES];
        private final int[] leftTables = new int[MAX_SOURCES];
        private final int[] leftColumns = new int[MAX_SOURCES];
        private int numberCount;
        private final int[] numbers = new int[SLOTS];
        private final int[] classes = new int[NODES];
        private final int[] classNumbers = new int[NODES];

        void build(Block block, Catalog catalog) {
            empty = false;
            set = block.set;
            collectNumbers(block);
            for (int node = 0; node < NODES; node++) {
                classes[node] = node;
            }
            joinEqualSides(block);
            joinOnes(block, catalog);
            numberClasses();
            findLess(block);
            findOutputs(block);
            findLeft(block, catalog);
        }

        /** The class of a column of a source that is left. */
        int classOf(int left, int column) {
            return classes[leftSources[left] * MAX_COLUMNS + column];
        }

        private void collectNumbers(Block block) {
            numberCount = 0;
            for (int slot = 0; slot < SLOTS; slot++) {
                if (block.isUsed(slot) && block.slotSources[slot] < 0 && indexOf(block.slotNumbers[slot]) < 0) {
                    numbers[numberCount] = block.slotNumbers[slot];
                    numberCount++;
                }
            }
        }

        private int indexOf(int number) {
            for (int i = 0; i < numberCount; i++) {
                if (numbers[i] == number) {
                    return i;
                }
            }
            return -1;
        }

        private int classOfSlot(Block block, int slot) {
            int source = block.slotSources[slot];
            int number = block.slotNumbers[slot];
            return classes[source < 0 ? COLUMN_NODES + indexOf(number) : source * MAX_COLUMNS + number];
        }

        private boolean merge(int kept, int gone) {
            if (kept == gone) {
                return false;
            }
            for (int node = 0; node < NODES; node++) {
                if (classes[node] == gone) {
                    classes[node] = kept;
                }
            }
            return true;
        }

        private void joinEqualSides(Block block) {
            for (int i = 0; i < block.conditionCount; i++) {
                if (!block.less[i]) {
                    merge(classOfSlot(block, Block.lowSlot(i)), classOfSlot(block, Block.highSlot(i)));
                }
            }
        }

        private void joinOnes(Block block, Catalog catalog) {
            boolean changed = true;
            // Each round but the last leaves fewer classes of columns.
            for (int round = 0; round < COLUMN_NODES && changed; round++) {
                changed = false;
                for (int s = 0; s < block.sourceCount; s++) {
                    for (int t = s + 1; t < block.sourceCount; t++) {
                        if (areOne(s, t, block, catalog) && mergeColumns(s, t)) {
                            changed = true;
                        }
                    }
                }
            }
        }

        private boolean areOne(int s, int t, Block block, Catalog catalog) {
            if (block.sourceTables[s] != block.sourceTables[t]) {
                return false;
            }
            Table table = catalog.tables[block.sourceTables[s]];
            for (int c = 0; c < table.columns; c++) {
                if (table.keys[c] && classes[s * MAX_COLUMNS + c] == classes[t * MAX_COLUMNS + c]) {
                    return true;
                }
            }
            return false;
        }

        private boolean mergeColumns(int s, int t) {
            boolean changed = false;
            for (int c = 0; c < MAX_COLUMNS; c++) {
                if (merge(classes[s * MAX_COLUMNS + c], classes[t * MAX_COLUMNS + c])) {
                    changed = true;
                }
            }
            return changed;
        }

        private void numberClasses() {
            for (int node = 0; node < NODES; node++) {
                classNumbers[node] = NO_NUMBER;
            }
            for (int i = 0; i < numberCount; i++) {
                int own = classes[COLUMN_NODES + i];
                if (classNumbers[own] != NO_NUMBER) {
                    empty = true;
                }
                classNumbers[own] = numbers[i];
            }
        }

        private void findLess(Block block) {
            lessCount = 0;
            for (int i = 0; i < block.conditionCount; i++) {
                if (block.less[i]) {
                    addLess(classOfSlot(block, Block.lowSlot(i)), classOfSlot(block, Block.highSlot(i)));
                }
            }
        }

        private void addLess(int low, int high) {
            if (low == high) {
                empty = true;
            } else if (classNumbers[low] == NO_NUMBER || classNumbers[high] == NO_NUMBER) {
                lows[lessCount] = low;
                highs[lessCount] = high;
                lessCount++;
            } else if (classNumbers[low] >= classNumbers[high]) {
                empty = true;
            }
        }

        private void findOutputs(Block block) {
            outputCount = block.outputCount;
            for (int i = 0; i < outputCount; i++) {
                outputs[i] = classOfSlot(block, i);
            }
        }

        private void findLeft(Block block, Catalog catalog) {
            leftCount = 0;
            for (int s = 0; s < block.sourceCount; s++) {
                if (!isOneWithLeft(s, block, catalog)) {
                    leftSources[leftCount] = s;
                    leftTables[leftCount] = block.sourceTables[s];
                    leftColumns[leftCount] = catalog.tables[block.sourceTables[s]].columns;
                    leftCount++;
                }
            }
        }

        private boolean isOneWithLeft(int s, Block block, Catalog catalog) {
            for (int i = 0; i < leftCount; i++) {
                if (areOne(leftSources[i], s, block, catalog)) {
                    return true;
                }
            }
            return false;
        }
    }

    /** Looks for a pairing of the sources left in two normal forms that makes them alike. */
    private static final class Pairing {
        private final int[] partners = new int[MAX_SOURCES];
        private final boolean[] taken = new boolean[MAX_SOURCES];

        boolean exists(NormalForm a, NormalForm b) {
            if (a.set != b.set || a.outputCount != b.outputCount) {
                return false;
            }
            if (a.empty || b.empty) {
                return a.empty && b.empty;
            }
            return a.leftCount == b.leftCount && pairFrom(0, a, b);
        }

        private boolean pairFrom(int left, NormalForm a, NormalForm b) {
            if (left >= a.leftCount) {
                return columnsFit(a, b) && outputsFit(a, b) && lessFits(a, b);
            }
            for (int i = 0; i < b.leftCount; i++) {
                if (!taken[i] && a.leftTables[left] == b.leftTables[i]) {
                    partners[left] = i;
                    taken[i] = true;
                    boolean found = pairFrom(left + 1, a, b);
                    taken[i] = false;
                    if (found) {
                        return true;
                    }
                }
            }
            return false;
        }

        private boolean columnsFit(NormalForm a, NormalForm b) {
            for (int left = 0; left < a.leftCount; left++) {
                for (int c = 0; c < a.leftColumns[left]; c++) {
                    if (!columnFits(left, c, a, b)) {
                        return false;
                    }
                }
            }
            return true;
        }

        private boolean columnFits(int left, int column, NormalForm a, NormalForm b) {
            int ownA = a.classOf(left, column);
            int ownB = b.classOf(partners[left], column);
            if (a.classNumbers[ownA] != b.classNumbers[ownB]) {
                return false;
            }
            for (int i = 0; i < a.leftCount; i++) {
                for (int c = 0; c < a.leftColumns[i]; c++) {
                    if ((a.classOf(i, c) == ownA) != (b.classOf(partners[i], c) == ownB)) {
                        return false;
                    }
                }
            }
            return true;
        }

        private boolean outputsFit(NormalForm a, NormalForm b) {
            for (int i = 0; i < a.outputCount; i++) {
                if (!arePaired(a.outputs[i], b.outputs[i], a, b)) {
                    return false;
                }
            }
            return true;
        }

        /** Both ways, because the same condition may stand several times in one text and once in the other. */
        private boolean lessFits(NormalForm a, NormalForm b) {
            for (int i = 0; i < a.lessCount; i++) {
                boolean found = false;
                for (int j = 0; j < b.lessCount; j++) {
                    found = found || isSameLess(i, j, a, b);
                }
                if (!found) {
                    return false;
                }
            }
            for (int j = 0; j < b.lessCount; j++) {
                boolean found = false;
                for (int i = 0; i < a.lessCount; i++) {
                    found = found || isSameLess(i, j, a, b);
                }
                if (!found) {
                    return false;
                }
            }
            return true;
        }

        private boolean isSameLess(int i, int j, NormalForm a, NormalForm b) {
            return arePaired(a.lows[i], b.lows[j], a, b) && arePaired(a.highs[i], b.highs[j], a, b);
        }

        /** Whether two classes go with each other, by their number or by the columns in them. */
        private boolean arePaired(int ownA, int ownB, NormalForm a, NormalForm b) {
            if (a.classNumbers[ownA] != NormalForm.NO_NUMBER || b.classNumbers[ownB] != NormalForm.NO_NUMBER) {
                return a.classNumbers[ownA] == b.classNumbers[ownB];
            }
            for (int i = 0; i < a.leftCount; i++) {
                for (int c = 0; c < a.leftColumns[i]; c++) {
                    if (a.classOf(i, c) == ownA) {
                        return b.classOf(partners[i], c) == ownB;
                    }
                }
            }
            return false;
        }
    }
}
