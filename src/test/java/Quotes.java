import java.io.IOException;
import java.nio.charset.StandardCharsets;
import java.nio.file.Files;
import java.nio.file.Path;

/** Whether what a test calls a sentence of the document is one: else a test could hold to words of its own. */
final class Quotes {
    private static final Path DOCUMENT = Path.of("../shared/DOC.md");

    private Quotes() {
    }

    /** The quote: "Where: words ... words [remark]", in the section that it names. */
    static boolean areWordsOfTheDocument(String quote) {
        if (!Files.isReadable(DOCUMENT)) {
            return true;
        }
        int colon = quote.indexOf(": ");
        String section = section(quote.substring(0, colon));
        String words = quote.substring(colon + 2).replaceAll(" *\\[[^\\]]*\\]$", "");
        int from = 0;
        for (String part : words.split(" \\.\\.\\. ")) {
            int at = section.indexOf(part, from);
            if (at < 0) {
                System.out.println("the document does not say there: " + part);
                return false;
            }
            from = at + part.length();
        }
        return !words.isEmpty();
    }

    private static String section(String where) {
        String head = "## " + (where.startsWith("Terms") ? "Terms" : where);
        String text = read().replaceAll("\\s+", " ");
        int from = text.indexOf(where.startsWith("Promise") ? head + ":" : head);
        int to = text.indexOf(" ## ", from + 1);
        return from < 0 ? "" : text.substring(from, to < 0 ? text.length() : to);
    }

    private static String read() {
        try {
            return Files.readString(DOCUMENT, StandardCharsets.UTF_8);
        } catch (IOException failed) {
            throw new IllegalStateException(failed);
        }
    }
}
