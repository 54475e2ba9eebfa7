import java.io.IOException;
import java.nio.file.Files;
import java.nio.file.Path;
import java.util.Arrays;

/** A part of the document whose sentences each have a test: words without one are an answer that is not as due. */
final class Part {
    private static final Path DOCUMENT = Path.of("../shared/DOC.md");

    /** Stands behind the last word of "Terms". */
    static final String END_OF_TERMS = "## end";

    private final Due due;
    private final String name;
    private final String text;
    private final boolean[] tested;

    private Part(Due due, String name, String text) {
        this.due = due;
        this.name = name;
        this.text = text;
        this.tested = new boolean[text.length()];
    }

    /** What stands behind the signature of a promise. */
    static Part promise(Due due, int number) {
        String promise = between(document(), "## Promise " + number + ": ", "\n## ");
        return new Part(due, "promise " + number, plain(promise.substring(promise.indexOf("`: ") + 3)));
    }

    /** What stands under "Terms", from some words on up to others. */
    static Part terms(Due due, String first, String behind) {
        String terms = plain(between(document(), "## Terms\n", "Ahead of the calls `put`")) + " ";
        return new Part(due, "terms", first + between(terms + END_OF_TERMS, first, behind));
    }

    private static String document() {
        try {
            return Files.readString(DOCUMENT);
        } catch (IOException e) {
            throw new IllegalStateException("no document at " + DOCUMENT, e);
        }
    }

    private static String between(String document, String from, String to) {
        int start = document.indexOf(from);
        int end = document.indexOf(to, start);
        if (start < 0 || end < 0) {
            throw new IllegalStateException("the document has no part from '" + from + "' to '" + to + "'");
        }
        return document.substring(start + from.length(), end);
    }

    /** Without fences, numbers of paragraphs and breaks of lines. */
    private static String plain(String text) {
        return text.replaceAll("(?m)^```.*$", "").replaceAll("(?m)^\\d+\\. ", "").replaceAll("\\s+", " ").trim();
    }

    /** The words stand in the document, and this is their test. */
    void says(String words, Runnable test) {
        int start = text.indexOf(words);
        // Words that stand there more than once have a test for each time.
        while (start >= 0 && tested[start]) {
            start = text.indexOf(words, start + 1);
        }
        due.holds(name + " says: " + words, start >= 0);
        if (start >= 0) {
            Arrays.fill(tested, start, start + words.length(), true);
        }
        test.run();
    }

    void end() {
        StringBuilder rest = new StringBuilder();
        for (int i = 0; i < tested.length; i++) {
            rest.append(tested[i] ? ' ' : text.charAt(i));
        }
        String words = rest.toString().replaceAll("\\s+", " ").trim();
        due.holds(name + " has words without a test: " + words, words.isEmpty());
    }
}
