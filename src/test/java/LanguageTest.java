import java.io.IOException;
import java.lang.reflect.Method;
import java.lang.reflect.Modifier;
import java.nio.file.Files;
import java.nio.file.Path;
import java.util.regex.Matcher;
import java.util.regex.Pattern;

/** What a look at the source can tell of the rules in LANGUAGE.md. */
public final class LanguageTest {
    private static final Check CHECK = new Check();
    private static final String[] NOT_THERE = {
        "->", "::", "^import ", "^package ", "\\bsynchronized\\b", "\\bfinally\\b", "\\bassert\\b", "\\btry\\b",
        "static \\{", "Exact\\(", "\\bThread\\b", "System\\.(?!arraycopy)", "Math\\.(?!min|max|abs|floor)",
        "\\bInteger\\b", "\\bLong\\b", "\\bString\\.", "\\bprotected\\b", "while \\(true", "for \\(;;",
    };

    public static void main(String[] args) throws IOException {
        String source = Files.readString(Path.of("src/main/java/BagPlanner.java"));
        String code = source.replaceAll("(?s)/\\*.*?\\*/", "").replaceAll("//[^\n]*", "").replaceAll("\"[^\"\n]*\"", "\"\"");
        for (String pattern : NOT_THERE) {
            Matcher matcher = Pattern.compile(pattern, Pattern.MULTILINE).matcher(code);
            CHECK.due("found " + pattern, matcher.find(), false);
        }
        CHECK.due("only characters of ASCII", source.chars().allMatch(c -> c < 127), true);
        methodLengths(source);
        classes();
        CHECK.end();
    }

    private static void methodLengths(String source) {
        Matcher matcher = Pattern.compile("(?m)^( +)[\\w ]+\\([^;\n]*\\{\n(?s:.*?)^\\1\\}").matcher(source);
        int found = 0;
        while (matcher.find()) {
            found++;
            long lines = matcher.group().lines().count();
            CHECK.due("a method of " + lines + " lines is short", lines <= 60, true);
        }
        CHECK.due("methods were found", found > 50, true);
    }

    private static void classes() {
        Class<?>[] inside = BagPlanner.class.getDeclaredClasses();
        CHECK.due("at most twelve classes", inside.length + 1 <= 12, true);
        for (Class<?> type : inside) {
            CHECK.due("fields of " + type, type.getDeclaredFields().length <= 20, true);
            hiddenMethods(type);
        }
        hiddenMethods(BagPlanner.class);
    }

    private static void hiddenMethods(Class<?> type) {
        for (Method hidden : type.getDeclaredMethods()) {
            CHECK.due("parameters of " + hidden, hidden.getParameterCount() <= 7, true);
            for (Method method : BagPlanner.class.getDeclaredMethods()) {
                boolean face = Modifier.isPublic(method.getModifiers());
                CHECK.due(hidden + " has a name of its own",
                    face && !Modifier.isPublic(hidden.getModifiers()) && hidden.getName().equals(method.getName()), false);
            }
        }
    }
}
