import java.io.IOException;
import java.nio.file.Files;
import java.nio.file.Path;

/**
 * The document's sentences, each with checks of its own. At the end it is wrong too, if a sentence was quoted without
 * a check, or if there are words in the document that were not quoted: so none is forgotten.
 */
final class Sentences {
    private static final String[] OTHER_LINES = {"#", "```", "Ahead of the calls", "A blow to be given back", "How the state is held"};
    private final Check check = new Check();
    private final String document;
    private final boolean[] quoted;
    private String sentence = "";
    private boolean isChecked = true;

    private Sentences(String document) {
        this.document = document;
        this.quoted = new boolean[document.length()];
    }

    /** Without the document the checks are made all the same. */
    static Sentences of(Path file) throws IOException {
        return new Sentences(Files.isReadable(file) ? wordsOf(Files.readString(file)) : "");
    }

    /** All but headings, the face and the paragraphs that promise nothing. */
    private static String wordsOf(String text) {
        StringBuilder words = new StringBuilder();
        boolean isFace = false;
        for (String line : text.split("\n")) {
            if (line.startsWith("```")) {
                isFace = line.equals("```java");
            }
            if (!isFace && !isOther(line)) {
                words.append(line.replaceFirst("^======== \\d ", "")).append(' ');
            }
        }
        return words.toString().replaceAll("\\s+", " ");
    }

    private static boolean isOther(String line) {
        for (String begin : OTHER_LINES) {
            if (line.startsWith(begin)) {
                return true;
            }
        }
        return false;
    }

    /** The checks that follow are of this sentence. */
    void says(String words) {
        endSentence();
        sentence = words;
        isChecked = false;
        quote(words);
    }

    /** Words that name no boundary case, or only join two sentences that are quoted. */
    void joins(String words) {
        quote(words);
    }

    private void quote(String words) {
        if (document.isEmpty()) {
            return;
        }
        int place = document.indexOf(words);
        check.isTrue("the document says once: " + words, place >= 0 && place == document.lastIndexOf(words));
        for (int i = 0; place >= 0 && i < words.length(); i++) {
            quoted[place + i] = true;
        }
    }

    void due(String call, long got, long want) {
        isChecked = true;
        check.due("\"" + sentence + "\": " + call, got, want);
    }

    private void endSentence() {
        check.isTrue("a check of: " + sentence, isChecked);
    }

    void end() {
        endSentence();
        StringBuilder left = new StringBuilder();
        for (int i = 0; i < document.length(); i++) {
            boolean isLeft = !quoted[i] && (Character.isLetterOrDigit(document.charAt(i)) || left.length() > 0);
            if (isLeft) {
                left.append(document.charAt(i));
            } else if (left.length() > 0) {
                check.isTrue("a test for: " + left, false);
                left.setLength(0);
            }
        }
        check.isTrue("a test for: " + left, left.length() == 0);
        check.end();
    }
}
