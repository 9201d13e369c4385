import java.io.IOException;
import java.nio.file.Files;
import java.nio.file.Path;
import java.util.ArrayList;
import java.util.List;
import java.util.Map;
import java.util.TreeMap;
import java.util.regex.Matcher;
import java.util.regex.Pattern;

/**
 * The document by its sections ("what it is", "part 1" to "part 5" of the terms, "1" to "46" the promises), and which of
 * its words a test has quoted: so a sentence that names an edge and has no test of its own is found.
 */
final class Document {
    private static final Path PLACE = Path.of("../shared/DOC.md");
    /** What makes a sentence one that names an edge. */
    private static final Pattern EDGE = Pattern.compile(
        "\\b(BAD|NOT|FULL|STATE)\\b|-1[1-4]\\b|\\d+ \\.\\. \\d+|\\bat (most|least|first)\\b|of like ones|\\btoward 0|\\bwraps?\\b"
            + "|too early|no less than|not matter|\\bfor ever\\b|\\bempty\\b|\\bmissing\\b|\\bbeyond\\b|\\bfewer\\b|\\bnone\\b|\\blacks\\b"
            + "|\\bNo blanks\\b|by 0\\b|\\bheld within\\b|\\bcut\\b|\\blowest bits\\b|\\bare kept\\b|\\bno TRACE\\b|\\btoo\\b|\\bto minute 999\\b"
            + "|no POSTS|without|No \\b|\\bnothing\\b|\\babove\\b|\\bno such\\b|\\bno farther\\b");

    private final Map<String, String> sections = new TreeMap<>();
    private final Map<String, boolean[]> quoted = new TreeMap<>();

    private Document() {
    }

    /** Without a document beside the project every quotation passes. */
    static Document read() {
        Document d = new Document();
        if (!Files.isReadable(PLACE)) return d;
        try {
            d.split(Files.readString(PLACE));
        } catch (IOException e) {
            throw new IllegalStateException("the document cannot be read", e);
        }
        return d;
    }

    private static String folded(String text) {
        return text.replace("```text", " ").replace("```", " ").replaceAll("\\s+", " ").trim();
    }

    private void split(String text) {
        add("what it is", text.substring(text.indexOf("An object is used"), text.indexOf("## The public face")));
        int terms = text.indexOf("## Terms"), promises = text.indexOf("## Promise 1:"), end = text.indexOf("## Not promised");
        String[] parts = text.substring(terms + 8, promises).split("========");
        for (int i = 0; i < parts.length; i++) add("part " + (i + 1), parts[i]);
        for (String promise : text.substring(promises, end).split("## Promise ")) {
            int colon = promise.indexOf(':');
            if (colon > 0) add(promise.substring(0, colon), promise.substring(colon + 1));
        }
    }

    private void add(String name, String text) {
        String words = folded(text);
        sections.put(name, words);
        quoted.put(name, new boolean[words.length()]);
    }

    /** Whether a section has these words; they count as quoted then. */
    boolean quote(String section, String words) {
        if (sections.isEmpty()) return true;
        String text = sections.getOrDefault(section, "");
        int from = text.indexOf(words);
        if (from < 0) return false;
        for (int i = from; i >= 0; i = text.indexOf(words, i + 1)) {
            for (int k = i; k < i + words.length(); k++) quoted.get(section)[k] = true;
        }
        return true;
    }

    /** Where an edge is named in words that nobody quoted. */
    List<String> unquoted() {
        List<String> rows = new ArrayList<>();
        for (String section : sections.keySet()) {
            String text = sections.get(section);
            Matcher m = EDGE.matcher(text);
            while (m.find()) {
                if (quoted.get(section)[m.start()]) continue;
                rows.add(section + ": .. " + text.substring(Math.max(0, m.start() - 40), Math.min(text.length(), m.end() + 40)) + " ..");
            }
        }
        return rows;
    }
}
