import java.io.IOException;
import java.lang.reflect.InvocationTargetException;
import java.lang.reflect.Method;
import java.lang.reflect.Modifier;
import java.nio.charset.StandardCharsets;
import java.nio.file.Files;
import java.nio.file.Path;
import java.util.ArrayList;
import java.util.Arrays;
import java.util.List;
import java.util.TreeSet;
import java.util.regex.Matcher;
import java.util.regex.Pattern;
import java.util.stream.Stream;

/** What README.md says is so: its example, its constants, and the calls, classes and tests that it names. */
public final class ReadmeTest {
    private static final Pattern MADE = Pattern.compile("new NeighbourBook\\((\\d+)\\);");
    private static final Pattern CALL = Pattern.compile("^book\\.(\\w+)\\(([^)]*)\\); +// (-?\\d+|[A-Z]+)(:.*)?$");
    private static final Pattern ROW_OF_CALL = Pattern.compile("^\\| `(\\w+)\\(([^)]*)\\)` \\| [^|]+ \\| [^|]+ \\|$");
    private static final Pattern ROW_OF_CONSTANT = Pattern.compile("^\\| `([A-Z]+)` \\| (-?\\d+) \\|.*");
    private static final Pattern ROW_OF_CLASS = Pattern.compile("^\\| `([A-Z][a-z]\\w*)` \\| [^|]+ \\|$");

    private final Checks checks = new Checks();
    private final List<String> lines = Files.readAllLines(Path.of("README.md"), StandardCharsets.UTF_8);

    private ReadmeTest() throws IOException {
    }

    public static void main(String[] args) throws IOException, ReflectiveOperationException {
        ReadmeTest test = new ReadmeTest();
        test.example();
        test.constants();
        test.calls();
        test.classesAndTests();
        test.edges();
        test.checks.end();
    }

    private void yes(String what, boolean is) {
        checks.due(what + ": 1", is ? 1 : 0, 1);
    }

    private void example() throws ReflectiveOperationException {
        NeighbourBook book = null;
        int made = 0;
        for (String line : lines) {
            Matcher start = MADE.matcher(line);
            if (start.find()) {
                book = new NeighbourBook(Integer.parseInt(start.group(1)));
            }
            if (line.startsWith("book.")) {
                Matcher call = CALL.matcher(line);
                yes(line + " tells its answer", call.matches());
                checks.due(line, answer(book, call.group(1), call.group(2)), number(call.group(3)));
                made++;
            }
        }
        yes("the example has calls", made > 20);
    }

    private static long answer(NeighbourBook book, String name, String numbers) throws ReflectiveOperationException {
        List<Object> given = new ArrayList<>();
        for (String number : numbers.split(", ")) {
            if (!number.isEmpty()) {
                given.add(Integer.valueOf(number));
            }
        }
        try {
            return ((Number) methodOf(name).invoke(book, given.toArray())).longValue();
        } catch (InvocationTargetException thrown) {
            throw new IllegalStateException(name + "(" + numbers + ") threw", thrown.getCause());
        }
    }

    private static Method methodOf(String name) {
        for (Method method : NeighbourBook.class.getDeclaredMethods()) {
            if (Modifier.isPublic(method.getModifiers()) && method.getName().equals(name)) {
                return method;
            }
        }
        throw new IllegalStateException("there is no call " + name);
    }

    private static long number(String text) throws ReflectiveOperationException {
        return text.matches("-?\\d+") ? Long.parseLong(text) : NeighbourBook.class.getField(text).getInt(null);
    }

    private void constants() throws ReflectiveOperationException {
        int told = 0;
        for (String line : lines) {
            Matcher row = ROW_OF_CONSTANT.matcher(line);
            if (row.matches()) {
                checks.due(row.group(1), number(row.group(1)), Long.parseLong(row.group(2)));
                told++;
            }
        }
        checks.due("constants", told, 4);
    }

    private void calls() {
        TreeSet<String> told = new TreeSet<>();
        for (String line : lines) {
            Matcher row = ROW_OF_CALL.matcher(line);
            if (row.matches()) {
                int numbers = row.group(2).isEmpty() ? 0 : row.group(2).split(", ").length;
                checks.due("numbers of " + row.group(1), numbers, methodOf(row.group(1)).getParameterCount());
                yes(row.group(1) + " is told once", told.add(row.group(1)));
            }
        }
        TreeSet<String> there = new TreeSet<>();
        for (Method method : NeighbourBook.class.getDeclaredMethods()) {
            if (Modifier.isPublic(method.getModifiers())) {
                there.add(method.getName());
                boolean isLong = method.getReturnType() == long.class;
                yes(method + " answers an int, sum alone a long", isLong == method.getName().equals("sum"));
            }
        }
        yes("all calls are told, " + told + " of " + there, told.equals(there));
    }

    private void classesAndTests() throws IOException {
        TreeSet<String> told = new TreeSet<>();
        for (String line : lines) {
            Matcher row = ROW_OF_CLASS.matcher(line);
            if (row.matches()) {
                told.add(row.group(1));
            }
        }
        TreeSet<String> there = new TreeSet<>();
        for (Class<?> inside : NeighbourBook.class.getDeclaredClasses()) {
            there.add(inside.getSimpleName());
        }
        try (Stream<Path> files = Files.list(Path.of("src/test/java"))) {
            for (Path file : (Iterable<Path>) files::iterator) {
                String name = file.getFileName().toString();
                if (name.endsWith("Test.java")) {
                    there.add(name.substring(0, name.length() - ".java".length()));
                }
            }
        }
        yes("all classes and tests are told, " + told + " of " + there, told.equals(there));
    }

    /** What the text says of some edges. */
    private void edges() {
        int none = NeighbourBook.NONE;
        NeighbourBook x = new NeighbourBook(2);
        x.pair(0, 0);
        checks.due("back(0, -1)", x.back(0, -1), none);
        checks.due("order(0, 2)", x.order(0, 2), none);
        checks.due("bit(0) without a BOOK", x.bit(0), none);
        checks.due("place(0) without a BOOK", x.place(0), none);
        for (int what = 2; what <= 6; what++) {
            checks.due("count(" + what + ") without a BOOK", x.count(what), 0);
        }
        checks.due("pack()", x.pack(), 7);
        checks.due("bit(7), a 0 behind the last", x.bit(7), none);
        x.form(7, 5);
        x.forms();
        checks.due("form(7, 1), no numbers", x.form(7, 1), 0);
        checks.due("below 1", new NeighbourBook(-5).count(0), 1);
        checks.due("above 48", new NeighbourBook(500).count(0), 48);
    }
}
