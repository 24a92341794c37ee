import java.util.ArrayList;
import java.util.Collections;
import java.util.List;
import java.util.Random;

/** A block made by chance, that can be written in several ways, all of them alike. */
final class RandomBlock {
    private final Random random;
    private final boolean set;
    private final List<Integer> tables = new ArrayList<>();
    /** A value is a number as text, or "source.column" with the source's index before the dot. */
    private final List<String> outputs = new ArrayList<>();
    private final List<String[]> conditions = new ArrayList<>();

    RandomBlock(Random random, int[] columns, int tableCount, int outputCount) {
        this.random = random;
        set = random.nextInt(3) == 0;
        int favourite = random.nextInt(tableCount);
        for (int more = random.nextInt(random.nextInt(2) == 0 ? 4 : 2); more >= 0; more--) {
            tables.add(random.nextInt(2) == 0 ? favourite : random.nextInt(tableCount));
        }
        for (int i = 0; i < outputCount; i++) {
            outputs.add(value(columns, 4));
        }
        for (int i = random.nextInt(3) == 0 ? 0 : random.nextInt(7); i > 0; i--) {
            conditions.add(new String[] {value(columns, 6), random.nextInt(3) == 0 ? "<" : "=", value(columns, 3)});
        }
    }

    private String value(int[] columns, int numberOutOf) {
        if (random.nextInt(numberOutOf) == 0) {
            return Integer.toString(random.nextInt(5) - 1);
        }
        int source = random.nextInt(tables.size());
        int there = columns[tables.get(source)];
        return source + "." + (random.nextInt(200) == 0 ? there : random.nextInt(there));
    }

    /** Writes the block with names, orders and sides as chance wants. */
    String write() {
        List<Integer> order = new ArrayList<>();
        List<Character> letters = new ArrayList<>();
        for (int i = 0; i < 26; i++) {
            letters.add((char) ('a' + i));
        }
        Collections.shuffle(letters, random);
        for (int i = 0; i < tables.size(); i++) {
            order.add(i);
        }
        Collections.shuffle(order, random);
        StringBuilder all = new StringBuilder(set ? "set out " : "out ");
        String between = "";
        for (String output : outputs) {
            all.append(between).append(named(output, letters));
            between = ",";
        }
        between = " of ";
        for (int source : order) {
            all.append(between).append((char) ('A' + tables.get(source))).append(letters.get(source));
            between = ", ";
        }
        between = " where ";
        List<String[]> shuffled = new ArrayList<>(conditions);
        if (!conditions.isEmpty() && conditions.size() < 6 && random.nextInt(3) == 0) {
            shuffled.add(conditions.get(0));
        }
        Collections.shuffle(shuffled, random);
        for (String[] condition : shuffled) {
            boolean turn = condition[1].equals("=") && random.nextBoolean();
            all.append(between).append(named(condition[turn ? 2 : 0], letters)).append(condition[1])
                .append(named(condition[turn ? 0 : 2], letters));
            between = " and ";
        }
        return all.toString();
    }

    private static String named(String value, List<Character> letters) {
        int dot = value.indexOf('.');
        return dot < 0 ? value : letters.get(Integer.parseInt(value.substring(0, dot))) + value.substring(dot);
    }
}
