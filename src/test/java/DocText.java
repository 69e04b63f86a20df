import java.io.IOException;
import java.nio.file.Files;
import java.nio.file.Path;
import java.util.LinkedHashMap;
import java.util.Map;
import java.util.regex.Matcher;
import java.util.regex.Pattern;

/**
 * The words of ../shared/DOC.md by section, from which the quoted sentences are struck out, so that
 * a sentence without a test is seen.
 */
final class DocText {
    private static final Path FILE = Path.of("../shared/DOC.md");
    private static final Pattern PART = Pattern.compile("(?ms)^## ([^\n]*)\n(.*?)(?=^## |\\z)");

    private final Map<String, String> words = new LinkedHashMap<>();
    private final Map<String, String> left = new LinkedHashMap<>();
    private final boolean found;

    DocText() {
        String text = "";
        try {
            text = Files.readString(FILE);
        } catch (IOException e) {
            System.out.println("the document is not at " + FILE + ": quotes are not compared");
        }
        found = !text.isEmpty();
        Matcher parts = PART.matcher(text);
        while (parts.find()) {
            String name = parts.group(1).replaceAll(":.*", "");
            words.put(name, asWords(parts.group(2)));
            left.put(name, asWords(parts.group(2)));
        }
    }

    /** Without the marks and headings that are no sentences: fences, numbers, signatures. */
    private static String asWords(String text) {
        return text.replaceAll("(?m)^```.*$", " ")
            .replaceAll("(?m)^\\d\\. ", " ")
            .replaceAll("(?m)^Ahead of the calls.*$", " ")
            .replaceAll("(?m)^`[^`]*`: ", " ")
            .replaceAll("\\s+", " ");
    }

    boolean says(String section, String sentence) {
        return !found || words.getOrDefault(section, "").contains(sentence);
    }

    void strike(String section, String sentence) {
        left.computeIfPresent(section, (name, text) -> text.replace(sentence, " "));
    }

    /** What no test quotes: of a section whose sentences are all quoted, only signs are left. */
    String unquoted(String section) {
        return left.getOrDefault(section, "").replaceAll("[\\s.,;:()]+", " ").trim();
    }
}
