import java.io.IOException;
import java.lang.reflect.Method;
import java.lang.reflect.Modifier;
import java.nio.file.Files;
import java.nio.file.Path;
import java.util.regex.Matcher;
import java.util.regex.Pattern;

/** What a look at the source can tell of the rules in LANGUAGE.md; where one says "some", a little more is let be. */
public final class LanguageTest {
    private static final Check CHECK = new Check();
    private static final String[] NOT_THERE = {
        "^package ", "^import (?!java\\.util\\.(ArrayList|List|Arrays|Iterator|NoSuchElementException);)", "::",
        "^(?!.*\\b(case|default)\\b).*->", "\\bsynchronized\\b", "\\bfinally\\b", "\\bassert\\b", "\\bstatic \\{",
        "try \\(", "\\bprotected\\b", "Exact\\(", "getMessage", "printStackTrace", "\\bThread\\b", "\\bRandom\\b",
        "Math\\.random", "System\\.(?!arraycopy)", "String\\.(format|valueOf|join)", "while \\(true", "for \\(;;",
        "\\b(equals|hashCode)\\(Object", "\\btoString\\(\\) \\{",
    };

    public static void main(String[] args) throws IOException {
        String source = Files.readString(Path.of("src/main/java/BagPlanner.java"));
        String code = source.replaceAll("(?s)/\\*.*?\\*/", "").replaceAll("//[^\n]*", "")
            .replaceAll("\"[^\"\n]*\"", "\"\"");
        for (String pattern : NOT_THERE) {
            Matcher matcher = Pattern.compile(pattern, Pattern.MULTILINE).matcher(code);
            CHECK.due("found " + pattern, matcher.find(), false);
        }
        CHECK.due("only characters 0 to 255", source.chars().allMatch(c -> c < 256), true);
        methodLengths(source);
        classes();
        CHECK.end();
    }

    private static void methodLengths(String source) {
        Matcher matcher = Pattern.compile("(?m)^( +)[\\w ]+\\([^;\n]*\\{\n(?s:.*?)^\\1\\}").matcher(source);
        while (matcher.find()) {
            long lines = matcher.group().lines().count();
            CHECK.due("a method of " + lines + " lines is short", lines <= 70, true);
        }
    }

    private static void classes() {
        Class<?>[] inside = BagPlanner.class.getDeclaredClasses();
        CHECK.due("some twelve classes", inside.length + 1 <= 14, true);
        for (Class<?> type : inside) {
            hiddenMethods(type);
        }
        hiddenMethods(BagPlanner.class);
    }

    private static void hiddenMethods(Class<?> type) {
        for (Method hidden : type.getDeclaredMethods()) {
            CHECK.due("parameters of " + hidden, hidden.getParameterCount() <= 7, true);
            if (Modifier.isPrivate(hidden.getModifiers())) {
                CHECK.due(hidden + " has a name of its own", isOfTheFace(hidden.getName()), false);
            }
        }
    }

    private static boolean isOfTheFace(String name) {
        for (Method method : BagPlanner.class.getDeclaredMethods()) {
            if (Modifier.isPublic(method.getModifiers()) && method.getName().equals(name)) {
                return true;
            }
        }
        return false;
    }
}
