import java.io.IOException;
import java.nio.charset.StandardCharsets;
import java.nio.file.Files;
import java.nio.file.Path;
import java.util.LinkedHashMap;
import java.util.Map;

/**
 * The document by its parts (WORDS, MATCH, FACE, OBJECT and "1" to "30"): a test of a sentence
 * quotes it, the quote must stand there, and at the end no word of a part may be left unquoted.
 */
final class Document {
    private static final String FENCE = "```";

    private static final Path PLACE = Path.of("../shared/DOC.md");

    private final Map<String, String> parts = new LinkedHashMap<>();
    private final Map<String, boolean[]> quoted = new LinkedHashMap<>();
    private final boolean there = Files.exists(PLACE);

    /** Where the document itself is away, the tests of its sentences run without looking them up. */
    Document() throws IOException {
        if (!there) {
            System.out.println("no " + PLACE + ": quotes are not looked up");
            return;
        }
        String all = Files.readString(PLACE, StandardCharsets.UTF_8).replaceAll("\\s+", " ");
        put("OBJECT", between(all, "An object is used for", "## The public face"));
        put("FACE", between(all, "The constants:", "## Promise 1:"));
        put("WORDS", between(all, "==== 1. ", "==== 2. "));
        put("MATCH", between(all, "==== 2. ", "The constants:"));
        for (int n = 1; n <= 30; n++) {
            put("" + n, promise(all, n));
        }
    }

    /** What stands behind the signature of a promise. */
    private static String promise(String all, int n) {
        String whole = between(all, "## Promise " + n + ":", n == 30 ? "## Not promised" : "## Promise " + (n + 1) + ":");
        return whole.substring(whole.indexOf("`: ") + 3);
    }

    private static String between(String all, String from, String to) {
        int start = all.indexOf(from);
        return all.substring(start, all.indexOf(to, start));
    }

    private void put(String part, String text) {
        String plain = text.replace(FENCE + "text", " ").replace(FENCE, " ").replace("====", " ")
                .replaceAll("\\s+", " ").trim();
        parts.put(part, plain);
        quoted.put(part, new boolean[plain.length()]);
    }

    /** Marks a quote; false if it does not stand there. */
    boolean quote(String part, String words) {
        if (!there) {
            return true;
        }
        String text = parts.get(part);
        int from = text == null ? -1 : text.indexOf(words);
        for (int i = from; from >= 0 && i < from + words.length(); i++) {
            quoted.get(part)[i] = true;
        }
        return from >= 0;
    }

    /** The first stretch with a letter or a number that no test has quoted; empty if there is none. */
    String unquoted(String part) {
        String text = parts.get(part);
        boolean[] marks = quoted.get(part);
        for (int i = 0; i < text.length(); i++) {
            if (!marks[i] && Character.isLetterOrDigit(text.charAt(i))) {
                int end = i;
                while (end < text.length() && !marks[end]) {
                    end++;
                }
                return text.substring(i, end);
            }
        }
        return "";
    }

    Iterable<String> names() {
        return parts.keySet();
    }
}
