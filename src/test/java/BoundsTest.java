import java.io.IOException;

/**
 * Every sentence of the document at its bounds: each test is named after its promise and quotes its
 * sentence, and at the end no word of the document is left that none has quoted.
 */
public final class BoundsTest {
    private static Document document;

    private BoundsTest() {
    }

    /** The comparisons from here on are about a sentence of the document; a quote that it has not is wrong. */
    static void says(String part, String words) {
        String name = part.length() <= 2 ? "Promise " + part : part;
        Checks.about(name + " (" + words + "): ");
        Checks.due("the document has it", document.quote(part, words), true);
    }

    public static void main(String[] args) throws IOException {
        document = new Document();
        WordsBounds.run();
        MatchBounds.run();
        TellBounds.run();
        AskBounds.run();
        Checks.about("");
        for (String part : document.names()) {
            Checks.due("not quoted of " + part, document.unquoted(part), "");
        }
        Checks.close("BoundsTest");
    }
}
