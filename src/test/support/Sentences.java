import java.io.IOException;
import java.nio.file.Files;
import java.nio.file.Path;

/**
 * The sentences of ../shared/DOC.md, each with a test of its own: a test names the words that it is of, and behind
 * each part of the document it is told of which of its words no test was. Run what uses it from the project's root.
 */
final class Sentences {
    private final String document;
    private String part = "";
    private String text = "";
    private boolean[] named = {};
    private String sentence = "";
    private int sentences = 0;
    private int answers = 0;
    private int wrong = 0;

    Sentences() throws IOException {
        document = Files.readString(Path.of("../shared/DOC.md"));
    }

    /** Begins a part, from where it says the one to where it says the other behind it. */
    void part(String name, String first, String behind) {
        endPart();
        part = name;
        int from = document.indexOf(first);
        int to = document.indexOf(behind, from + 1);
        if (from < 0 || to < 0) {
            tell("the document has no such part");
        }
        text = from < 0 || to < 0 ? "" : document.substring(from, to)
            .replaceAll("```(text)?|==== \\d|## .*|`[^`]*`:", " ").replaceAll("\\s+", " ");
        named = new boolean[text.length()];
    }

    /** Begins the test of some words of the part; words that stand there twice are taken in their order. */
    void of(String words) {
        sentence = words;
        sentences++;
        int at = text.indexOf(words);
        while (at >= 0 && named[at] && text.indexOf(words, at + 1) >= 0) {
            at = text.indexOf(words, at + 1);
        }
        if (at < 0) {
            tell("the document does not say so");
        }
        for (int k = 0; at >= 0 && k < words.length(); k++) {
            named[at + k] = true;
        }
    }

    void due(String call, long got, long want) {
        answers++;
        if (got != want) {
            tell(call + " answered " + got + ", due is " + want);
        }
    }

    void same(String call, String got, String want) {
        answers++;
        if (!got.equals(want)) {
            tell(call + ": " + got + ", due is " + want);
        }
    }

    private void tell(String what) {
        wrong++;
        System.out.println(part + ", \"" + sentence + "\": " + what);
    }

    private void endPart() {
        sentence = "";
        StringBuilder left = new StringBuilder();
        for (int k = 0; k < text.length(); k++) {
            left.append(named[k] ? ' ' : text.charAt(k));
        }
        String words = left.toString().replaceAll("\\s+", " ").trim();
        if (words.matches(".*\\w.*")) {
            tell("no test is of: " + words);
        }
    }

    /** Ends with exit code 1, if something was wrong. */
    void end() {
        endPart();
        System.out.println(sentences + " sentences, " + answers + " answers, " + wrong + " wrong");
        if (wrong != 0) {
            System.exit(1);
        }
    }
}
