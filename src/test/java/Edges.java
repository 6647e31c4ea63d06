import java.util.ArrayList;
import java.util.HashMap;
import java.util.List;
import java.util.Map;
import java.util.regex.Matcher;
import java.util.regex.Pattern;

/**
 * Sentences of the document, each with a test of its own. A sentence must stand, word by word, in the section that it
 * is said to be of; and no word of a promise or of the terms may be left without one.
 */
final class Edges extends Asking {
    private final String document;
    private final Map<String, List<int[]>> told = new HashMap<>();
    private String heading = "";
    private String section = "";
    private int sentences;

    Edges(String document) {
        this.document = document;
    }

    /** The sentences that follow are of the section with this heading. */
    void of(String newHeading) {
        heading = newHeading;
        section = sectionOf(newHeading);
        if (section.isEmpty()) {
            about(newHeading);
            tellWrong("the document has no such section");
        }
    }

    void ofPromise(int n) {
        of("Promise " + n);
    }

    private String sectionOf(String title) {
        Matcher m = Pattern.compile("(?s)\n## " + title + "\\b[^\n]*\n(.*?)(?=\n## |\\z)").matcher(document);
        return m.find() ? m.group(1).replaceAll("(?m)^```\\w*$|^\\d+\\. ", "").replaceAll("\\s+", " ") : "";
    }

    void edge(String sentence, Runnable test) {
        about(heading + " \"" + sentence + "\"");
        sentences++;
        int at = section.indexOf(sentence);
        if (at < 0 || section.indexOf(sentence, at + 1) >= 0) {
            tellWrong(at < 0 ? "the document does not say so there" : "the document says so more than once there");
        }
        told.computeIfAbsent(heading, h -> new ArrayList<>()).add(new int[] {at, at + sentence.length()});
        try {
            test.run();
        } catch (RuntimeException e) {
            tellWrong("threw " + e + " at " + e.getStackTrace()[0]);
        }
    }

    /** Tells each word of a promise, behind the call's own line, that no tested sentence holds. */
    void lookForWordsOfPromise(int n) {
        lookForWords("Promise " + n, "`:", "");
    }

    /** Tells each word of a section, behind one of its texts and ahead of another, that no tested sentence holds. */
    void lookForWords(String title, String behind, String ahead) {
        about(title);
        String words = sectionOf(title);
        boolean[] tested = tested(title, words);
        int from = words.indexOf(behind);
        int end = ahead.isEmpty() ? words.length() : words.indexOf(ahead);
        if (from < 0 || end <= from) {
            tellWrong("the section is another one");
            return;
        }
        Matcher m = Pattern.compile("\\w+").matcher(words);
        for (int at = from; m.find(at) && m.start() < end; at = m.end()) {
            tellUntested(words, tested, m.start(), m.end());
        }
    }

    private boolean[] tested(String title, String words) {
        boolean[] tested = new boolean[words.length()];
        for (int[] span : told.getOrDefault(title, List.of())) {
            for (int i = Math.max(0, span[0]); i < span[1] && i < tested.length; i++) {
                tested[i] = true;
            }
        }
        return tested;
    }

    private static void tellUntested(String words, boolean[] tested, int from, int behind) {
        for (int i = from; i < behind; i++) {
            if (!tested[i]) {
                tellWrong("no test of \"" + words.substring(from, Math.min(words.length(), behind + 50)) + "\"");
                return;
            }
        }
    }

    int sentences() {
        return sentences;
    }
}
