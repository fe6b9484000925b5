import java.io.IOException;
import java.io.UncheckedIOException;
import java.nio.file.Files;
import java.nio.file.Path;
import java.util.ArrayList;
import java.util.LinkedHashMap;
import java.util.List;
import java.util.Map;
import java.util.TreeMap;

/**
 * The sentences of the document, cut at full stops and semicolons, by promise; those of 'Description' stand under 0.
 * It is kept which of them a test has named, so that a sentence without a test is seen.
 */
final class Sentences {
    private static final Path DOCUMENT = Path.of("../shared/DOC.md");
    private static final int DESCRIPTION = 0;
    private static final int INTRODUCTION = -1;
    private static final String ENDS = "(?<=[^.]\\.)\\s+(?=[A-Z(]|setGroup\\(\\), )|(?<=\\.\\))\\s+|;\\s+";

    private final Map<Integer, Map<String, Boolean>> named = new TreeMap<>();

    Sentences() {
        try {
            for (String section : Files.readString(DOCUMENT).split("(?m)^## ")) {
                String title = section.substring(0, Math.max(0, section.indexOf('\n')));
                addSection(title, section.substring(title.length()));
            }
        } catch (IOException e) {
            throw new UncheckedIOException(e);
        }
    }

    private void addSection(String title, String body) {
        if (title.equals("What it is")) {
            cut(INTRODUCTION, body);
        } else if (title.equals("Description")) {
            cut(DESCRIPTION, body.substring(0, body.indexOf("Examples:")));
        } else if (title.startsWith("Promise ")) {
            cut(Integer.parseInt(title.substring(8, title.indexOf(':'))), body);
        }
    }

    private void cut(int promise, String body) {
        Map<String, Boolean> sentences = new LinkedHashMap<>();
        String words = body.replaceAll("(?m)^(`|----).*$", "");
        for (String paragraph : words.split("\n\\s*\n|\n(?=- )")) {
            String line = paragraph.replace("`", "").replaceAll("\\s+", " ").replaceAll("^ ?- ", "").trim();
            for (String sentence : line.split(ENDS)) {
                if (!sentence.isEmpty() && !isHeading(promise, sentence)) {
                    sentences.put(sentence, false);
                }
            }
        }
        named.put(promise, sentences);
    }

    private static boolean isHeading(int promise, String sentence) {
        return promise == DESCRIPTION && sentence.split(" ").length < 3;
    }

    /** Marks the sentence that has these words, of the promise or of what stands before all promises. */
    boolean name(int promise, String words) {
        return nameIn(promise, words) || nameIn(DESCRIPTION, words) || nameIn(INTRODUCTION, words);
    }

    private boolean nameIn(int promise, String words) {
        for (Map.Entry<String, Boolean> sentence : named.getOrDefault(promise, Map.of()).entrySet()) {
            if (sentence.getKey().contains(words)) {
                sentence.setValue(true);
                return true;
            }
        }
        return false;
    }

    /** The sentences of the promises and of 'Description' that no test has named. */
    List<String> withoutTest() {
        List<String> missing = new ArrayList<>();
        for (int promise = DESCRIPTION; promise <= 50; promise++) {
            Map<String, Boolean> sentences = named.getOrDefault(promise, Map.of("(the whole section)", false));
            for (Map.Entry<String, Boolean> sentence : sentences.entrySet()) {
                if (!sentence.getValue()) {
                    missing.add("promise " + promise + ": " + sentence.getKey());
                }
            }
        }
        return missing;
    }
}
