import java.util.ArrayList;
import java.util.LinkedHashMap;
import java.util.List;
import java.util.Map;

/** Cases that each hold one sentence of the document to its word. */
final class Edge {
    private static final Map<String, List<String>> SENTENCES = new LinkedHashMap<>();
    private static String section = "";

    private Edge() {
    }

    /** Where the sentences that come now stand in the document. */
    static void in(String name) {
        section = name;
        SENTENCES.putIfAbsent(name, new ArrayList<>());
    }

    /** Runs the case of a sentence, which must look at something; what it throws is wrong. */
    static void says(String sentence, Runnable holds) {
        SENTENCES.get(section).add(sentence);
        Check.about(section + ": " + sentence);
        int before = Check.looked();
        try {
            holds.run();
        } catch (RuntimeException e) {
            Check.same("thrown by the case", "nothing", e + " at " + e.getStackTrace()[0]);
        }
        Check.holds("the case looks at something", Check.looked() > before);
        Check.about("");
    }

    /** The sentences that have had their case, by their sections. */
    static Map<String, List<String>> sentences() {
        return SENTENCES;
    }
}
