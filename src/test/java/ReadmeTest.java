import java.io.IOException;
import java.lang.reflect.InvocationTargetException;
import java.lang.reflect.Method;
import java.lang.reflect.Modifier;
import java.nio.file.Files;
import java.nio.file.Path;
import java.util.Arrays;
import java.util.HashMap;
import java.util.List;
import java.util.Map;
import java.util.regex.Matcher;
import java.util.regex.Pattern;
import java.util.stream.Stream;

/** README.md: its example answers what it tells, its questions are some, its calls and test programs are all there. */
public final class ReadmeTest {
    private static final Pattern CALL = Pattern.compile(
        "(?:int (?<name>\\w+) = )?planner\\.(?<method>\\w+)\\((?<arguments>[^)]*)\\); +// (?<told>(throws )?[^ :]+).*");
    private static final Check CHECK = new Check();

    private final BagPlanner planner = new BagPlanner();
    private final Map<String, String> names = new HashMap<>();

    public static void main(String[] args) throws IOException, ReflectiveOperationException {
        String readme = Files.readString(Path.of("README.md"));
        new ReadmeTest().example(blockOf(readme, "java"));
        BagPlanner x = Check.withTables(2, 2);
        CHECK.due("the question is one", Check.ask(x, blockOf(readme, "text").trim()), 0);
        allCalls(readme);
        allTestPrograms(readme);
        CHECK.end();
    }

    private static String blockOf(String readme, String kind) {
        int from = readme.indexOf("```" + kind + "\n") + kind.length() + 4;
        return readme.substring(from, readme.indexOf("```", from));
    }

    private void example(String code) throws ReflectiveOperationException {
        List<String> lines = code.lines().toList();
        CHECK.due("the first line", lines.get(0), "BagPlanner planner = new BagPlanner();");
        for (String line : lines.subList(1, lines.size())) {
            Matcher call = CALL.matcher(line);
            if (!call.matches()) {
                CHECK.due("'" + line + "' is", "no call", "a call");
                continue;
            }
            String answer = answer(call.group("method"), call.group("arguments"));
            if (call.group("name") != null) {
                names.put(call.group("name"), answer);
            }
            if (!answer.equals("null")) {
                CHECK.due(line, answer, call.group("told"));
            }
        }
    }

    private String answer(String name, String written) throws ReflectiveOperationException {
        Method method = Arrays.stream(BagPlanner.class.getMethods())
            .filter(m -> m.getName().equals(name)).findFirst().orElseThrow();
        Object[] arguments = new Object[method.getParameterCount()];
        String[] parts = written.split(", ");
        for (int i = 0; i < arguments.length; i++) {
            String part = names.getOrDefault(parts[i], parts[i]);
            if (method.getParameterTypes()[i] == long.class) {
                arguments[i] = Long.decode(part.replace("L", ""));
            } else {
                arguments[i] = Integer.decode(part);
            }
        }
        try {
            return String.valueOf(method.invoke(planner, arguments));
        } catch (InvocationTargetException e) {
            return "throws " + e.getCause().getClass().getSimpleName();
        }
    }

    private static void allCalls(String readme) {
        for (Method method : BagPlanner.class.getDeclaredMethods()) {
            if (Modifier.isPublic(method.getModifiers())) {
                CHECK.due("a row for " + method.getName(), readme.contains("\n| `" + method.getName() + "("), true);
            }
        }
    }

    private static void allTestPrograms(String readme) throws IOException {
        try (Stream<Path> files = Files.list(Path.of("src/test/java"))) {
            files.map(file -> file.getFileName().toString()).filter(name -> name.endsWith("Test.java")).forEach(
                name -> CHECK.due("a row for " + name, readme.contains("\n| `" + name.replace(".java", "` |")), true));
        }
    }
}
