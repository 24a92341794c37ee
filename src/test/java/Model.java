import java.util.ArrayList;
import java.util.Arrays;
import java.util.HashMap;
import java.util.List;
import java.util.Map;
import java.util.TreeMap;
import java.util.TreeSet;
import java.util.regex.Matcher;
import java.util.regex.Pattern;

/**
 * The document's words once more, with the Java library and in other ways than BagPlanner's: rows by taking all
 * ways first and testing then, alike by comparing the least of all writings of a block's normal form.
 */
final class Model {
    private static final Pattern TOKEN = Pattern.compile("[a-z]+|[A-Z]|[0-9]+|[^ ]");

    /** A table's rows and keys. */
    private static final class Rows {
        final int columns;
        final List<int[]> rows = new ArrayList<>();
        final TreeSet<Integer> keys = new TreeSet<>();

        Rows(int columns) {
            this.columns = columns;
        }
    }

    /** A value is "#number" or "name.column"; a condition is value, sign, value. */
    private static final class Part {
        boolean set;
        final List<String> outputs = new ArrayList<>();
        final Map<String, Integer> sources = new TreeMap<>();
        final List<String[]> conditions = new ArrayList<>();
    }

    /** A text that is no question. */
    private static final class Wrong extends RuntimeException {
        private static final long serialVersionUID = 1;
        final int place;

        Wrong(int place) {
            this.place = place;
        }
    }

    private final List<Rows> tables = new ArrayList<>();
    private String text = "";
    private int place = -1;
    private final List<List<Part>> questions = new ArrayList<>();
    private final List<List<String>> joins = new ArrayList<>();
    private TreeMap<List<Integer>, Integer> answer = newBag();

    private final List<String> tokens = new ArrayList<>();
    private final List<Integer> starts = new ArrayList<>();
    private int at;

    private static TreeMap<List<Integer>, Integer> newBag() {
        return new TreeMap<>((a, b) -> Arrays.compare(
            a.stream().mapToInt(i -> i).toArray(), b.stream().mapToInt(i -> i).toArray()));
    }

    private static void refuse(boolean wrong, RuntimeException thrown) {
        if (wrong) {
            throw thrown;
        }
    }

    private Rows rows(int table) {
        refuse(table < 0 || table >= tables.size(), new IllegalArgumentException());
        return tables.get(table);
    }

    private Rows rows(int table, int column) {
        Rows found = rows(table);
        refuse(column < 0 || column >= found.columns, new IllegalArgumentException());
        return found;
    }

    int table(int columns) {
        refuse(columns < 1 || columns > 3, new IllegalArgumentException());
        refuse(tables.size() == 4, new IllegalStateException());
        tables.add(new Rows(columns));
        return tables.size() - 1;
    }

    int key(int table, int column) {
        Rows found = rows(table, column);
        long different = found.rows.stream().map(row -> row[column]).distinct().count();
        refuse(different < found.rows.size(), new IllegalStateException());
        found.keys.add(column);
        return 0;
    }

    int insert(int table, int... row) {
        Rows found = rows(table);
        refuse(found.rows.size() == 8, new IllegalStateException());
        for (int key : found.keys) {
            refuse(found.rows.stream().anyMatch(r -> r[key] == row[key]), new IllegalStateException());
        }
        found.rows.add(row);
        return found.rows.size();
    }

    int delete(int table, int column, int value) {
        Rows found = rows(table, column);
        int before = found.rows.size();
        found.rows.removeIf(row -> row[column] == value);
        return before - found.rows.size();
    }

    boolean write(long characters) {
        StringBuilder added = new StringBuilder();
        for (long rest = characters; rest != 0; rest >>>= 8) {
            if ((rest & 255) != 0) {
                added.append((char) (rest & 255));
            }
        }
        if (added.chars().anyMatch(c -> c < 32 || c > 126) || text.length() + added.length() > 200) {
            return false;
        }
        text += added;
        return true;
    }

    int wipe() {
        int had = text.length();
        text = "";
        return had;
    }

    int place() {
        return place;
    }

    int forget() {
        int had = questions.size();
        questions.clear();
        joins.clear();
        return had;
    }

    int question() {
        List<Part> parts = new ArrayList<>();
        List<String> signs = new ArrayList<>();
        try {
            read(parts, signs);
        } catch (Wrong wrong) {
            place = wrong.place;
            throw new IllegalArgumentException();
        }
        place = -1;
        refuse(questions.size() == 4, new IllegalStateException());
        text = "";
        questions.add(parts);
        joins.add(signs);
        return questions.size() - 1;
    }

    private void read(List<Part> parts, List<String> signs) {
        tokens.clear();
        starts.clear();
        at = 0;
        Matcher matcher = TOKEN.matcher(text);
        while (matcher.find()) {
            tokens.add(matcher.group());
            starts.add(matcher.start());
        }
        tokens.add("");
        starts.add(text.length());
        while (true) {
            int start = starts.get(at);
            Part part = readPart();
            if (!next().matches("[+^-]?")) {
                throw new Wrong(starts.get(at));
            }
            parts.add(part);
            if (!namesFit(part) || part.outputs.size() != parts.get(0).outputs.size()) {
                throw new Wrong(start);
            }
            if (next().isEmpty()) {
                return;
            }
            if (parts.size() == 3) {
                throw new Wrong(starts.get(at));
            }
            signs.add(take("[+^-]"));
        }
    }

    private String next() {
        return tokens.get(at);
    }

    private String take(String pattern) {
        if (!next().matches(pattern)) {
            throw new Wrong(starts.get(at));
        }
        return tokens.get(at++);
    }

    private boolean goesOn(boolean room, String with) {
        boolean on = room && next().equals(with);
        at += on ? 1 : 0;
        return on;
    }

    private Part readPart() {
        Part part = new Part();
        part.set = goesOn(true, "set");
        take("out");
        do {
            part.outputs.add(readValue());
        } while (goesOn(part.outputs.size() < 3, ","));
        take("of");
        do {
            int table = next().matches("[A-Z]") ? next().charAt(0) - 'A' : 99;
            take(table < tables.size() ? "[A-Z]" : "nothing at all");
            take(part.sources.containsKey(next()) ? "nothing at all" : "[a-z]");
            part.sources.put(tokens.get(at - 1), table);
        } while (goesOn(part.sources.size() < 4, ","));
        if (goesOn(true, "where")) {
            do {
                part.conditions.add(new String[] {readValue(), take("[=<]"), readValue()});
            } while (goesOn(part.conditions.size() < 6, "and"));
        }
        return part;
    }

    private String readValue() {
        if (next().matches("[a-z]")) {
            String name = take("[a-z]") + take("\\.");
            return name + Integer.parseInt(take("[0-9]{1,3}"));
        }
        int sign = goesOn(true, "-") ? -1 : 1;
        return "#" + sign * Integer.parseInt(take("[0-9]{1,3}"));
    }

    private static List<String> values(Part part) {
        List<String> all = new ArrayList<>(part.outputs);
        for (String[] condition : part.conditions) {
            all.add(condition[0]);
            all.add(condition[2]);
        }
        return all;
    }

    private boolean namesFit(Part part) {
        for (String value : values(part)) {
            if (!value.startsWith("#")) {
                Integer table = part.sources.get(value.substring(0, 1));
                if (table == null || Integer.parseInt(value.substring(2)) >= tables.get(table).columns) {
                    return false;
                }
            }
        }
        return true;
    }

    private List<Part> parts(int q) {
        refuse(q < 0 || q >= questions.size(), new IllegalArgumentException());
        return questions.get(q);
    }

    int run(int q) {
        List<Part> parts = parts(q);
        TreeMap<List<Integer>, Integer> bag = rowsOf(parts.get(0));
        for (int i = 1; i < parts.size(); i++) {
            TreeMap<List<Integer>, Integer> right = rowsOf(parts.get(i));
            TreeMap<List<Integer>, Integer> joined = newBag();
            TreeSet<List<Integer>> both = new TreeSet<>(bag.comparator());
            both.addAll(bag.keySet());
            both.addAll(right.keySet());
            for (List<Integer> row : both) {
                int left = bag.getOrDefault(row, 0);
                int other = right.getOrDefault(row, 0);
                String sign = joins.get(q).get(i - 1);
                int times = sign.equals("+") ? left + other : sign.equals("-") ? left - other : Math.min(left, other);
                if (times > 0) {
                    joined.put(row, times);
                }
            }
            refuse(joined.size() > 64, new UnsupportedOperationException());
            bag = joined;
        }
        answer = bag;
        return bag.size();
    }

    private TreeMap<List<Integer>, Integer> rowsOf(Part part) {
        List<Map<String, int[]>> ways = new ArrayList<>();
        ways.add(new HashMap<>());
        for (Map.Entry<String, Integer> source : part.sources.entrySet()) {
            List<Map<String, int[]>> longer = new ArrayList<>();
            for (Map<String, int[]> way : ways) {
                for (int[] row : tables.get(source.getValue()).rows) {
                    Map<String, int[]> on = new HashMap<>(way);
                    on.put(source.getKey(), row);
                    longer.add(on);
                }
            }
            ways = longer;
        }
        TreeMap<List<Integer>, Integer> bag = newBag();
        for (Map<String, int[]> way : ways) {
            if (part.conditions.stream().allMatch(c -> holds(c, way))) {
                List<Integer> row = part.outputs.stream().map(v -> valueIn(v, way)).toList();
                bag.merge(row, 1, part.set ? (a, b) -> 1 : Integer::sum);
            }
        }
        refuse(bag.size() > 64, new UnsupportedOperationException());
        return bag;
    }

    private static boolean holds(String[] condition, Map<String, int[]> way) {
        int left = valueIn(condition[0], way);
        int right = valueIn(condition[2], way);
        return condition[1].equals("=") ? left == right : left < right;
    }

    private static int valueIn(String value, Map<String, int[]> way) {
        return value.startsWith("#") ? Integer.parseInt(value.substring(1))
            : way.get(value.substring(0, 1))[Integer.parseInt(value.substring(2))];
    }

    int row(int k, int c) {
        refuse(k < 0 || k >= answer.size() || c < 0 || c >= answer.firstKey().size(), new IndexOutOfBoundsException());
        return new ArrayList<>(answer.keySet()).get(k).get(c);
    }

    int times(int k) {
        refuse(k < 0 || k >= answer.size(), new IndexOutOfBoundsException());
        return new ArrayList<>(answer.values()).get(k);
    }

    int total() {
        return answer.values().stream().mapToInt(i -> i).sum();
    }

    /** All rows of the latest answer, with how often each is there. */
    String answer() {
        return answer.toString();
    }

    boolean alike(int p, int q) {
        List<Part> first = parts(p);
        List<Part> second = parts(q);
        refuse(first.size() + second.size() > 2, new UnsupportedOperationException());
        return leastWriting(first.get(0)).equals(leastWriting(second.get(0)));
    }

    int sources(int q) {
        List<Part> parts = parts(q);
        refuse(parts.size() > 1, new UnsupportedOperationException());
        List<TreeSet<String>> classes = classes(parts.get(0));
        return isEmpty(parts.get(0), classes) ? 0 : left(parts.get(0), classes).size();
    }

    private List<TreeSet<String>> classes(Part part) {
        List<TreeSet<String>> classes = new ArrayList<>();
        for (String source : part.sources.keySet()) {
            for (int c = 0; c < tables.get(part.sources.get(source)).columns; c++) {
                classes.add(new TreeSet<>(List.of(source + "." + c)));
            }
        }
        for (String number : new TreeSet<>(values(part))) {
            if (number.startsWith("#")) {
                classes.add(new TreeSet<>(List.of(number)));
            }
        }
        for (String[] condition : part.conditions) {
            if (condition[1].equals("=")) {
                join(classes, condition[0], condition[2]);
            }
        }
        boolean more = true;
        while (more) {
            more = false;
            for (String s : part.sources.keySet()) {
                for (String t : part.sources.keySet()) {
                    if (areOne(part, classes, s, t)) {
                        for (int c = 0; c < tables.get(part.sources.get(s)).columns; c++) {
                            more |= join(classes, s + "." + c, t + "." + c);
                        }
                    }
                }
            }
        }
        return classes;
    }

    private static TreeSet<String> classOf(List<TreeSet<String>> classes, String member) {
        return classes.stream().filter(c -> c.contains(member)).findFirst().orElseThrow();
    }

    private static boolean join(List<TreeSet<String>> classes, String a, String b) {
        TreeSet<String> first = classOf(classes, a);
        TreeSet<String> second = classOf(classes, b);
        if (first == second) {
            return false;
        }
        classes.remove(second);
        first.addAll(second);
        return true;
    }

    private boolean areOne(Part part, List<TreeSet<String>> classes, String s, String t) {
        int table = part.sources.get(s);
        return table == part.sources.get(t) && tables.get(table).keys.stream()
            .anyMatch(key -> classOf(classes, s + "." + key).contains(t + "." + key));
    }

    private static List<Integer> numbersIn(TreeSet<String> own) {
        return own.stream().filter(m -> m.startsWith("#")).map(m -> Integer.parseInt(m.substring(1))).toList();
    }

    private static boolean isEmpty(Part part, List<TreeSet<String>> classes) {
        if (classes.stream().anyMatch(c -> numbersIn(c).size() > 1)) {
            return true;
        }
        for (String[] condition : part.conditions) {
            TreeSet<String> low = classOf(classes, condition[0]);
            TreeSet<String> high = classOf(classes, condition[2]);
            boolean numbers = !numbersIn(low).isEmpty() && !numbersIn(high).isEmpty();
            if (condition[1].equals("<")
                && (low == high || numbers && numbersIn(low).get(0) >= numbersIn(high).get(0))) {
                return true;
            }
        }
        return false;
    }

    private List<String> left(Part part, List<TreeSet<String>> classes) {
        List<String> left = new ArrayList<>();
        for (String source : part.sources.keySet()) {
            if (left.stream().noneMatch(other -> areOne(part, classes, other, source))) {
                left.add(source);
            }
        }
        return left;
    }

    /** Two blocks are alike just when the least writings of their normal forms are the same text. */
    private String leastWriting(Part part) {
        List<TreeSet<String>> classes = classes(part);
        String head = (part.set ? "set " : "bag ") + part.outputs.size();
        if (isEmpty(part, classes)) {
            return head + " empty";
        }
        TreeSet<String> writings = new TreeSet<>();
        addWritings(part, classes, left(part, classes), new ArrayList<>(), writings);
        return head + writings.first();
    }

    private void addWritings(Part part, List<TreeSet<String>> classes, List<String> rest, List<String> order,
            TreeSet<String> writings) {
        if (rest.isEmpty()) {
            writings.add(writing(part, classes, order));
        }
        for (String source : rest) {
            List<String> fewer = new ArrayList<>(rest);
            fewer.remove(source);
            order.add(source);
            addWritings(part, classes, fewer, order, writings);
            order.remove(order.size() - 1);
        }
    }

    private String writing(Part part, List<TreeSet<String>> classes, List<String> order) {
        List<TreeSet<String>> seen = new ArrayList<>();
        StringBuilder all = new StringBuilder();
        for (String source : order) {
            all.append(" of ").append(part.sources.get(source));
            for (int c = 0; c < tables.get(part.sources.get(source)).columns; c++) {
                all.append(" ").append(written(seen, classOf(classes, source + "." + c)));
            }
        }
        for (String output : part.outputs) {
            all.append(" out ").append(written(seen, classOf(classes, output)));
        }
        TreeSet<String> less = new TreeSet<>();
        for (String[] condition : part.conditions) {
            if (condition[1].equals("<")) {
                String low = written(seen, classOf(classes, condition[0]));
                String high = written(seen, classOf(classes, condition[2]));
                if (!low.startsWith("#") || !high.startsWith("#")) {
                    less.add(low + "<" + high);
                }
            }
        }
        return all.append(less).toString();
    }

    /** A class is its number, or else how many without one were met before it. */
    private static String written(List<TreeSet<String>> seen, TreeSet<String> own) {
        if (!numbersIn(own).isEmpty()) {
            return "#" + numbersIn(own).get(0);
        }
        for (int i = 0; i < seen.size(); i++) {
            if (seen.get(i) == own) {
                return "c" + i;
            }
        }
        seen.add(own);
        return "c" + (seen.size() - 1);
    }
}
