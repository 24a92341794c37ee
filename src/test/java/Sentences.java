import java.io.IOException;
import java.nio.file.Files;
import java.nio.file.Path;
import java.util.TreeSet;

/** Tests that each belong to one sentence of the document, or to the part of a sentence that names one boundary. */
final class Sentences {
    private static final Path DOCUMENT = Path.of("../shared/DOC.md");

    private final Check check;
    private final String document;
    private final TreeSet<String> tested = new TreeSet<>();

    Sentences(Check check) {
        this.check = check;
        document = readDocument();
    }

    private static String readDocument() {
        try {
            return Files.readString(DOCUMENT);
        } catch (IOException e) {
            System.out.println("the document is not at hand, so no test's sentence is looked up in it");
            return "";
        }
    }

    /** The section is a heading of the document, or the number of a promise. */
    void test(String section, String sentence, Runnable body) {
        String name = section + ", \"" + sentence + "\"";
        check.due("one test of its own for " + name, tested.add(name), true);
        if (!document.isEmpty()) {
            check.due("the document says in " + name, textOf(section).contains(sentence), true);
        }
        int wrongBefore = check.wrong();
        try {
            body.run();
        } catch (RuntimeException e) {
            check.due("a call", "throws." + e, "an answer");
        }
        if (check.wrong() != wrongBefore) {
            System.out.println("^ these answers break the document in " + name);
        }
    }

    void test(int promise, String sentence, Runnable body) {
        test("Promise " + promise + ":", sentence, body);
    }

    private String textOf(String section) {
        int from = document.indexOf("\n## " + section);
        int end = document.indexOf("\n## ", from + 1);
        return from < 0 ? "" : document.substring(from, end < 0 ? document.length() : end);
    }
}
