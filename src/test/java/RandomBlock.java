import java.util.ArrayList;
import java.util.Collections;
import java.util.List;
import java.util.Random;

/** A block made by chance, that can be written in several ways, all of them alike. */
final class RandomBlock {
    private final Random random;
    private final int[] columns;
    private boolean set;
    private final List<Integer> tables = new ArrayList<>();
    /** A value is a number as text, or "source.column" with the source's index before the dot. */
    private final List<String> outputs = new ArrayList<>();
    private final List<String[]> conditions = new ArrayList<>();

    RandomBlock(Random random, int[] columns, int tableCount, int outputCount) {
        this.random = random;
        this.columns = columns;
        set = random.nextInt(3) == 0;
        int favourite = random.nextInt(tableCount);
        for (int more = random.nextInt(random.nextInt(2) == 0 ? 4 : 2); more >= 0; more--) {
            tables.add(random.nextInt(2) == 0 ? favourite : random.nextInt(tableCount));
        }
        for (int i = 0; i < outputCount; i++) {
            outputs.add(value(4));
        }
        for (int i = random.nextInt(3) == 0 ? 0 : random.nextInt(7); i > 0; i--) {
            conditions.add(new String[] {value(6), random.nextInt(3) == 0 ? "<" : "=", value(3)});
        }
    }

    private String value(int numberOutOf) {
        if (random.nextInt(numberOutOf) == 0) {
            return Integer.toString(random.nextInt(5) - 1);
        }
        int source = random.nextInt(tables.size());
        int there = columns[tables.get(source)];
        return source + "." + (random.nextInt(200) == 0 ? there : random.nextInt(there));
    }

    private RandomBlock(RandomBlock other) {
        random = other.random;
        columns = other.columns;
        set = other.set;
        tables.addAll(other.tables);
        outputs.addAll(other.outputs);
        for (String[] condition : other.conditions) {
            conditions.add(condition.clone());
        }
    }

    /** Another block that is alike: it says the same in other words, and uses the keys that the tables have. */
    RandomBlock otherWay(boolean[][] keys) {
        RandomBlock other = new RandomBlock(this);
        for (int changes = random.nextInt(4); changes >= 0; changes--) {
            switch (random.nextInt(3)) {
                case 0 -> other.addTrueCondition();
                case 1 -> other.useEqual();
                default -> other.addOne(keys);
            }
        }
        return other;
    }

    /** Another block with one thing changed, that is alike now and then. */
    RandomBlock withAChange() {
        RandomBlock other = new RandomBlock(this);
        int place = random.nextInt(conditions.size() + 1) - 1;
        if (random.nextInt(3) == 0) {
            boolean[] all = {true, true, true};
            other.addOne(new boolean[][] {all, all, all, all});
        } else if (place < 0) {
            other.outputs.set(random.nextInt(outputs.size()), value(4));
            other.set = set != (random.nextInt(4) == 0);
        } else if (random.nextInt(3) == 0) {
            other.conditions.remove(place);
        } else {
            int part = random.nextInt(3);
            other.conditions.get(place)[part] = part == 1 ? "=" : value(3);
        }
        return other;
    }

    private void addCondition(String low, String sign, String high) {
        if (conditions.size() < 6) {
            conditions.add(new String[] {low, sign, high});
        }
    }

    private void addTrueCondition() {
        int number = random.nextInt(6) - 3;
        switch (random.nextInt(3)) {
            case 0 -> addCondition(Integer.toString(number), "<", Integer.toString(number + 1 + random.nextInt(3)));
            case 1 -> addCondition(Integer.toString(number), "=", Integer.toString(number));
            default -> addCondition("0.0", "=", "0.0");
        }
    }

    /** Puts one side of a condition = for the other, but not in conditions =, that could tell less then. */
    private void useEqual() {
        for (String[] equal : conditions) {
            if (equal[1].equals("=") && random.nextBoolean()) {
                outputs.replaceAll(output -> otherSide(output, equal));
                for (String[] condition : conditions) {
                    if (condition[1].equals("<")) {
                        condition[0] = otherSide(condition[0], equal);
                        condition[2] = otherSide(condition[2], equal);
                    }
                }
            }
        }
    }

    private String otherSide(String value, String[] equal) {
        boolean turned = random.nextBoolean();
        String from = equal[turned ? 2 : 0];
        return value.equals(from) ? equal[turned ? 0 : 2] : value;
    }

    /** Adds a source that is one with another if its column is a key, and uses it for that one here and there. */
    private void addOne(boolean[][] keys) {
        int old = random.nextInt(tables.size());
        int table = tables.get(old);
        int key = random.nextInt(columns[table]);
        if (!keys[table][key] || tables.size() == 4 || conditions.size() == 6) {
            return;
        }
        int added = tables.size();
        tables.add(table);
        outputs.replaceAll(output -> ofOne(output, old, added));
        for (String[] condition : conditions) {
            condition[0] = ofOne(condition[0], old, added);
            condition[2] = ofOne(condition[2], old, added);
        }
        addCondition(old + "." + key, "=", added + "." + key);
    }

    private String ofOne(String value, int old, int added) {
        return value.startsWith(old + ".") && random.nextBoolean() ? added + value.substring(1) : value;
    }

    /** Writes the block with names, orders and sides as chance wants. */
    String write() {
        List<Integer> order = new ArrayList<>();
        List<Character> letters = new ArrayList<>();
        for (int i = 0; i < 26; i++) {
            letters.add((char) ('a' + i));
        }
        Collections.shuffle(letters, random);
        for (int i = 0; i < tables.size(); i++) {
            order.add(i);
        }
        Collections.shuffle(order, random);
        StringBuilder all = new StringBuilder(set ? "set out " : "out ");
        String between = "";
        for (String output : outputs) {
            all.append(between).append(named(output, letters));
            between = ",";
        }
        between = " of ";
        for (int source : order) {
            all.append(between).append((char) ('A' + tables.get(source))).append(letters.get(source));
            between = ", ";
        }
        between = " where ";
        List<String[]> shuffled = new ArrayList<>(conditions);
        if (!conditions.isEmpty() && conditions.size() < 6 && random.nextInt(3) == 0) {
            shuffled.add(conditions.get(0));
        }
        Collections.shuffle(shuffled, random);
        for (String[] condition : shuffled) {
            boolean turn = condition[1].equals("=") && random.nextBoolean();
            all.append(between).append(named(condition[turn ? 2 : 0], letters)).append(condition[1])
                .append(named(condition[turn ? 0 : 2], letters));
            between = " and ";
        }
        return all.toString();
    }

    private static String named(String value, List<Character> letters) {
        int dot = value.indexOf('.');
        return dot < 0 ? value : letters.get(Integer.parseInt(value.substring(0, dot))) + value.substring(dot);
    }
}
