import java.io.IOException;
import java.lang.reflect.Method;
import java.nio.charset.StandardCharsets;
import java.nio.file.Files;
import java.nio.file.Path;
import java.util.ArrayList;
import java.util.List;
import java.util.stream.Stream;

/** No words of the document's terms and promises are without a test that bears them. */
public final class EverySentenceTest {
    private static final Class<?>[] TESTS = {
        EdgesOfPairsTest.class, EdgesOfTellingsTest.class, EdgesOfPackingTest.class, EdgesOfBitsTest.class,
        EdgesOfOrdersTest.class, EdgesOfRefusalsTest.class, SentencesTest.class, EffectsTest.class};
    /** FaceTest holds the program to the face; the others promise nothing. */
    private static final String[] NO_PROMISES = {
        "## The public face .*?(?= ## )", "## Not promised .*", "what later calls answer is free"};
    /** Heads, the marks of the terms, and the calls that the promises are of. */
    private static final String[] NO_SENTENCES = {
        "^# NeighbourBook", "## What it is", "## Terms", "## Promise [0-9]+: (A new object|[a-z]+) `[^`]*`:", "======== [0-9]", "```text", "```"};

    private final Checks checks = new Checks();

    public static void main(String[] args) throws IOException {
        EverySentenceTest test = new EverySentenceTest();
        test.allTestsAreHere();
        if (Quotes.canBeLookedUp()) {
            test.noWordsAreLeft();
        }
        test.checks.end();
    }

    private void allTestsAreHere() throws IOException {
        int bearing = 0;
        try (Stream<Path> files = Files.list(Path.of("src/test/java"))) {
            for (Path file : (Iterable<Path>) files::iterator) {
                String text = Files.readString(file, StandardCharsets.UTF_8);
                bearing += text.matches("(?s).*\\bclass \\w+ extends Edges \\{.*") ? 1 : 0;
            }
        }
        checks.due("tests that bear sentences", TESTS.length, bearing);
    }

    private void noWordsAreLeft() {
        String left = Quotes.textWithout(quotes());
        for (String nothing : NO_PROMISES) {
            left = left.replaceAll(nothing, "");
        }
        for (String nothing : NO_SENTENCES) {
            left = left.replaceAll(nothing, "");
        }
        for (String words : left.split("[^A-Za-z0-9]{3,}")) {
            if (words.matches(".*[A-Za-z0-9].*")) {
                checks.due("tests that bear \"" + words + "\"", 0, 1);
            }
        }
        checks.due("quotes of the document are looked up: 1", quotes().size() > 200 ? 1 : 0, 1);
    }

    private static List<String> quotes() {
        List<String> all = new ArrayList<>();
        for (Class<?> test : TESTS) {
            for (Method method : test.getDeclaredMethods()) {
                Edges.Says says = method.getAnnotation(Edges.Says.class);
                if (says != null) {
                    all.add(says.value());
                }
            }
        }
        return all;
    }
}
