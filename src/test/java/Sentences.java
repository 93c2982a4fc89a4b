import java.io.IOException;
import java.nio.file.Files;
import java.nio.file.Path;
import java.util.Set;
import java.util.TreeSet;

/**
 * Tests of single sentences of ../shared/DOC.md. Each test quotes the words that it holds; words of a part that no
 * test quotes, and quotes that the part does not have, count as faults.
 */
final class Sentences {
    private final Check check = new Check();
    private final String document;
    private final Set<String> seen = new TreeSet<>();
    private String part;
    private String text;
    private boolean[] quoted;
    private String sentence = "";
    private int tests;

    Sentences() {
        document = readDocument();
    }

    /** null where the document is not at hand: the answers are looked at all the same, the quotes are not. */
    private static String readDocument() {
        try {
            return Files.readString(Path.of("../shared/DOC.md"));
        } catch (IOException e) {
            System.out.println("../shared/DOC.md can't be read: quotes are not looked at");
            return null;
        }
    }

    /** The tests that follow are of Terms I. */
    void firstTerms() {
        begin("Terms I", between("## Terms\n\nI. ", "\n\nII. ").replace("```text", "").replace("```", ""));
    }

    /** The tests that follow are of Terms II. */
    void secondTerms() {
        begin("Terms II", between("\n\nII. ", "\nThe constants:").replace("```text", "").replace("```", ""));
    }

    /** The tests that follow are of this promise. */
    void promise(int n) {
        String section = between("## Promise " + n + ":", "\n## ");
        begin("Promise " + n, section.substring(Math.min(section.length(), section.indexOf("`: ") + 3)));
    }

    void test(String quote, Runnable body) {
        sentence = part + ", '" + quote + "': ";
        int at = text.indexOf(quote);
        if (document != null) {
            check.due(sentence + "stands in the document", at >= 0, true);
        }
        while (at >= 0) {
            for (int i = at; i < at + quote.length(); i++) {
                quoted[i] = true;
            }
            at = text.indexOf(quote, at + 1);
        }
        tests++;
        body.run();
    }

    void due(String call, long got, long want) {
        check.due(sentence + call, got, want);
    }

    void due(String call, boolean got, boolean want) {
        check.due(sentence + call, got, want);
    }

    void finish() {
        end();
        System.out.println(tests + " tests of sentences in " + seen.size() + " parts of the document");
        check.finish();
    }

    /** All promises from one to another must have had their tests. */
    void finishPromises(int from, int to) {
        for (int n = from; n <= to; n++) {
            check.due("Promise " + n + " has tests", n == number(part) || seen.contains("Promise " + n), true);
        }
        finish();
    }

    private static int number(String part) {
        return part != null && part.startsWith("Promise ") ? Integer.parseInt(part.substring(8)) : 0;
    }

    private String between(String start, String stop) {
        if (document == null) {
            return "";
        }
        int from = document.indexOf(start);
        if (from < 0) {
            throw new IllegalStateException("the document has no '" + start + "'");
        }
        int to = document.indexOf(stop, from + start.length());
        return document.substring(from + start.length(), to < 0 ? document.length() : to);
    }

    private void begin(String name, String words) {
        end();
        part = name;
        text = words;
        quoted = new boolean[words.length()];
    }

    private void end() {
        if (part == null) {
            return;
        }
        seen.add(part);
        StringBuilder left = new StringBuilder();
        for (int i = 0; i < text.length(); i++) {
            left.append(quoted[i] ? ' ' : text.charAt(i));
        }
        String words = left.toString().replaceAll("[^A-Za-z0-9]+", " ").trim();
        check.due(part + ", words without a test (" + words + ")", words.length(), 0);
    }
}
