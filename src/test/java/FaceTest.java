import java.io.IOException;
import java.lang.reflect.Constructor;
import java.lang.reflect.Field;
import java.lang.reflect.Method;
import java.lang.reflect.Modifier;
import java.nio.file.Files;
import java.nio.file.Path;
import java.util.Arrays;
import java.util.TreeSet;

/** The public face: these members and no others that are not private. */
public final class FaceTest {
    private static final String ARGUMENT = " throws IllegalArgumentException";
    private static final String STATE = ", IllegalStateException";
    private static final String UNSUPPORTED = ", UnsupportedOperationException";
    private static final String INDEX = " throws IndexOutOfBoundsException";

    private static final String[] FACE = {
        "int table(int)" + ARGUMENT + STATE,
        "void key(int, int)" + ARGUMENT + STATE,
        "int insert(int, int, int, int)" + ARGUMENT + STATE,
        "int delete(int, int, int)" + ARGUMENT,
        "boolean write(long)",
        "int wipe()",
        "int question()" + ARGUMENT + STATE,
        "int place()",
        "int forget()",
        "int run(int)" + ARGUMENT + UNSUPPORTED,
        "int row(int, int)" + INDEX,
        "int times(int)" + INDEX,
        "int total()",
        "boolean alike(int, int)" + ARGUMENT + UNSUPPORTED,
        "int sources(int)" + ARGUMENT + UNSUPPORTED,
    };

    public static void main(String[] args) {
        Check check = new Check();
        Class<BagPlanner> face = BagPlanner.class;
        check.due("public and final", face.getModifiers(), Modifier.PUBLIC | Modifier.FINAL);
        TreeSet<String> found = new TreeSet<>();
        for (Method method : face.getDeclaredMethods()) {
            if (!Modifier.isPrivate(method.getModifiers())) {
                check.due(method.getName() + " is public", method.getModifiers(), Modifier.PUBLIC);
                found.add(signature(method));
            }
        }
        check.due("methods", found.toString(), new TreeSet<>(Arrays.asList(FACE)).toString());
        Constructor<?>[] constructors = face.getDeclaredConstructors();
        check.due("constructors", constructors.length, 1);
        check.due("constructor", constructors[0].toString(), "public BagPlanner()");
        for (Field field : face.getDeclaredFields()) {
            check.due(field.getName() + " is private", Modifier.isPrivate(field.getModifiers()), true);
            check.due(field.getName() + " is no changing static",
                Modifier.isStatic(field.getModifiers()) && !Modifier.isFinal(field.getModifiers()), false);
        }
        for (Class<?> inside : face.getDeclaredClasses()) {
            check.due(inside.getName() + " is static", Modifier.isStatic(inside.getModifiers()), true);
        }
        new Sentences(check).test("The public face", "public final class BagPlanner {\n    public BagPlanner();",
            () -> check.due("the document's methods", found.toString(), methodsOf("../shared/DOC.md", found)));
        check.end();
    }

    /** The methods that the document lists, without their parameters' names; those found if it is not at hand. */
    private static String methodsOf(String document, TreeSet<String> found) {
        TreeSet<String> listed = new TreeSet<>();
        try {
            for (String line : Files.readAllLines(Path.of(document))) {
                if (line.matches("    public \\w+ \\w+\\(.*;")) {
                    listed.add(line.substring(11, line.length() - 1).replaceAll("(int|long) \\w+([,)])", "$1$2"));
                }
            }
        } catch (IOException e) {
            return found.toString();
        }
        return listed.toString();
    }

    private static String signature(Method method) {
        StringBuilder all = new StringBuilder();
        all.append(method.getReturnType().getName()).append(" ").append(method.getName()).append("(");
        String between = "";
        for (Class<?> parameter : method.getParameterTypes()) {
            all.append(between).append(parameter.getName());
            between = ", ";
        }
        all.append(")");
        between = " throws ";
        for (Class<?> thrown : method.getExceptionTypes()) {
            all.append(between).append(thrown.getSimpleName());
            between = ", ";
        }
        return all.toString();
    }
}
