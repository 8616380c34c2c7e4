import java.io.IOException;
import java.nio.charset.StandardCharsets;
import java.nio.file.Files;
import java.nio.file.Path;
import java.util.Arrays;
import java.util.List;

/** Whether what a test calls a sentence of the document is one, and which words of it no test has. */
final class Quotes {
    private static final Path DOCUMENT = Path.of("../shared/DOC.md");

    private Quotes() {
    }

    static boolean canBeLookedUp() {
        return Files.isReadable(DOCUMENT);
    }

    /** The quote: "Where: words ... words [remark]", in the section that it names. */
    static boolean areWordsOfTheDocument(String quote) {
        if (!canBeLookedUp()) {
            return true;
        }
        boolean found = mark(text(), quote, null);
        if (!found) {
            System.out.println("the document does not say so there: " + quote);
        }
        return found;
    }

    /** The document with a dot for each letter that one of the quotes has. */
    static String textWithout(List<String> quotes) {
        String text = text();
        boolean[] quoted = new boolean[text.length()];
        for (String quote : quotes) {
            mark(text, quote, quoted);
        }
        StringBuilder left = new StringBuilder(text);
        for (int i = 0; i < quoted.length; i++) {
            if (quoted[i]) {
                left.setCharAt(i, '.');
            }
        }
        return left.toString();
    }

    /** Marks where the words of a quote stand, if there is something to mark in; whether they all stand there. */
    private static boolean mark(String text, String quote, boolean[] quoted) {
        int colon = quote.indexOf(": ");
        String words = quote.substring(colon + 2).replaceAll(" *\\[[^\\]]*\\]$", "");
        int from = beginOf(text, quote.substring(0, colon));
        int to = from < 0 ? -1 : endOf(text, from);
        for (String part : words.split(" \\.\\.\\. ")) {
            int at = from < 0 ? -1 : text.indexOf(part, from);
            if (at < 0 || at + part.length() > to) {
                return false;
            }
            from = at + part.length();
            if (quoted != null) {
                Arrays.fill(quoted, at, from, true);
            }
        }
        return !words.isEmpty();
    }

    private static int beginOf(String text, String where) {
        String head = "## " + (where.startsWith("Terms") ? "Terms" : where);
        return text.indexOf(where.startsWith("Promise") ? head + ":" : head + " ");
    }

    private static int endOf(String text, int begin) {
        int end = text.indexOf(" ## ", begin + 1);
        return end < 0 ? text.length() : end;
    }

    private static String text() {
        return read().replaceAll("\\s+", " ");
    }

    private static String read() {
        try {
            return Files.readString(DOCUMENT, StandardCharsets.UTF_8);
        } catch (IOException failed) {
            throw new IllegalStateException(failed);
        }
    }
}
