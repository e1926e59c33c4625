import java.io.IOException;
import java.nio.file.Files;
import java.nio.file.Path;
import java.util.ArrayList;
import java.util.LinkedHashMap;
import java.util.List;
import java.util.Map;
import java.util.regex.Matcher;
import java.util.regex.Pattern;

/** The document's sentences by their sections: what it is, each term, what holds of every call, each promise. */
final class Document {
    private final Map<String, String> sections = new LinkedHashMap<>();

    Document(Path file) throws IOException {
        String text = Files.readString(file).replaceAll("(?m)^```.*$", "");
        sections.put("What it is", plain(between(text, "## What it is", "## The public face")));
        String terms = between(text, "## Terms", "## Promise 1:");
        int calls = terms.indexOf("A call that throws");
        Matcher term = Pattern.compile("(?ms)^(\\d)\\. (.*?)(?=^\\d\\. |\\z)").matcher(terms.substring(0, calls));
        while (term.find()) {
            sections.put("Term " + term.group(1), plain(term.group(2)));
        }
        sections.put("Every call", plain(terms.substring(calls)));
        Matcher promise = Pattern.compile("(?ms)^## Promise (\\d+): [^\\n]*\\n(.*?)(?=^## )").matcher(text);
        while (promise.find()) {
            sections.put("Promise " + promise.group(1), plain(promise.group(2)));
        }
    }

    private static String between(String text, String from, String to) {
        int start = text.indexOf(from) + from.length();
        return text.substring(start, text.indexOf(to, start));
    }

    /** One line, without what stands in the face as well. */
    private static String plain(String text) {
        return text.replaceAll("`[^`]*`:", "").replaceAll("\\s+", " ").trim();
    }

    List<String> names() {
        return new ArrayList<>(sections.keySet());
    }

    boolean has(String section, String sentence) {
        return sections.getOrDefault(section, "").contains(sentence);
    }

    /** What is left of a section without these sentences: pieces that have a letter or a digit. */
    List<String> without(String section, List<String> sentences) {
        String text = sections.getOrDefault(section, "");
        boolean[] said = new boolean[text.length()];
        for (String sentence : sentences) {
            for (int at = text.indexOf(sentence); at >= 0; at = text.indexOf(sentence, at + 1)) {
                java.util.Arrays.fill(said, at, at + sentence.length(), true);
            }
        }
        StringBuilder left = new StringBuilder();
        for (int k = 0; k < said.length; k++) {
            left.append(said[k] ? '\n' : text.charAt(k));
        }
        List<String> pieces = new ArrayList<>();
        for (String piece : left.toString().split("\n")) {
            if (piece.matches(".*[A-Za-z0-9].*")) {
                pieces.add(piece.trim());
            }
        }
        return pieces;
    }
}
