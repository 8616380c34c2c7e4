import java.lang.annotation.ElementType;
import java.lang.annotation.Retention;
import java.lang.annotation.RetentionPolicy;
import java.lang.annotation.Target;
import java.lang.reflect.InvocationTargetException;
import java.lang.reflect.Method;
import java.util.ArrayList;
import java.util.Arrays;
import java.util.Comparator;
import java.util.List;
import java.util.function.Supplier;
import java.util.function.ToLongFunction;

/**
 * Tests of sentences: each method that bears Says is one test, which holds the program to that
 * sentence of the document alone. Answers that are due are worked out by hand from its words.
 */
abstract class Edges {
    static final int NONE = -1, BAD = -2, STATE = -3, FULL = -4;
    static final int LEAST = Integer.MIN_VALUE, MOST = Integer.MAX_VALUE;
    static final int KIND = 0, COUNT = 1, FIRST = 2, GAP = 3, BACK = 4, BLOCK = 5, BEGIN = 6, LENGTH = 7;

    /** Where the document says it, then its words (... for what is left out), then [a remark of the test's own]. */
    @Retention(RetentionPolicy.RUNTIME)
    @Target(ElementType.METHOD)
    @interface Says {
        String value();
    }

    private int made = 0;
    private int wrong = 0;

    /** Runs all tests of a class, tells those that fail with their sentences, and ends with 1 if one did. */
    static void run(Edges tests) {
        Method[] methods = tests.getClass().getDeclaredMethods();
        Arrays.sort(methods, Comparator.comparing(Method::getName));
        int held = 0;
        int failed = 0;
        for (Method test : methods) {
            Says says = test.getAnnotation(Says.class);
            if (says == null) {
                continue;
            }
            if (tests.holds(test) && Quotes.areWordsOfTheDocument(says.value())) {
                held++;
            } else {
                failed++;
                System.out.println("  so this does not hold (" + test.getName() + "): " + says.value());
            }
        }
        System.out.println(held + " sentences hold, " + failed + " do not");
        if (failed != 0 || held == 0) {
            System.exit(1);
        }
    }

    private boolean holds(Method test) {
        made = 0;
        wrong = 0;
        try {
            test.invoke(this);
        } catch (InvocationTargetException thrown) {
            wrong++;
            System.out.println("thrown: " + thrown.getCause());
        } catch (IllegalAccessException closed) {
            throw new IllegalStateException(test.getName() + " is private", closed);
        }
        return made > 0 && wrong == 0;
    }

    final void due(String call, long got, long want) {
        made++;
        if (got != want) {
            wrong++;
            System.out.println(call + " answered " + got + ", due is " + want);
        }
    }

    /** The call is refused, and afterwards all other calls answer as those of a twin that never heard it. */
    final void refused(String call, Supplier<NeighbourBook> twin, ToLongFunction<NeighbourBook> asked, long refusal) {
        NeighbourBook x = twin.get();
        due(call, asked.applyAsLong(x), refusal);
        due(call + " changed something: 1", answersOf(x).equals(answersOf(twin.get())) ? 0 : 1, 0);
    }

    /** The things 0 .. n - 1, the first of them with these rows. */
    static NeighbourBook of(int n, int[]... rows) {
        NeighbourBook x = new NeighbourBook(n);
        for (int a = 0; a < rows.length; a++) {
            for (int b : rows[a]) {
                x.pair(a, b);
            }
        }
        return x;
    }

    static int[] row(int... things) {
        return things;
    }

    /** From one thing to another, with all between. */
    static int[] span(int from, int to) {
        int[] things = new int[to - from + 1];
        for (int i = 0; i < things.length; i++) {
            things[i] = from + i;
        }
        return things;
    }

    /** Four rows {0, 2}; alone they have 8, 10, 12, 12 bits, by SAME 6 (k = 1) or 8 (k = 2, 3). */
    static NeighbourBook fourAlike() {
        return of(4, row(0, 2), row(0, 2), row(0, 2), row(0, 2));
    }

    static NeighbourBook packed(NeighbourBook x) {
        x.pack();
        return x;
    }

    /** What all calls answer; those that change something come last, so the object is spent then. */
    static List<Long> answersOf(NeighbourBook x) {
        List<Long> all = new ArrayList<>();
        int n = x.count(0);
        for (int what = 0; what < 7; what++) {
            all.add((long) x.count(what));
        }
        for (int a = 0; a < n; a++) {
            addThing(all, x, a);
        }
        // Of few things each pair, of many the bits of what is packed last tell them.
        for (int a = 0; a < n && n <= 5; a++) {
            addThingMore(all, x, a, n);
        }
        all.add((long) x.threes());
        all.add((long) x.parts(NONE));
        all.add((long) x.best());
        addBook(all, x);
        addRules(all, x);
        all.add((long) x.pack());
        all.add(x.sum());
        return all;
    }

    private static void addThing(List<Long> all, NeighbourBook x, int a) {
        all.add((long) x.degree(a, 0));
        all.add((long) x.degree(a, 1));
        all.add((long) x.told(a, 0));
        all.add((long) x.told(a, 3));
        all.add((long) x.looked(a));
    }

    private static void addThingMore(List<Long> all, NeighbourBook x, int a, int n) {
        for (int b = 0; b < n; b++) {
            all.add((long) x.has(a, b));
            all.add((long) x.far(a, b));
        }
        all.add((long) x.told(a, 1));
        all.add((long) x.told(a, 2));
        all.add((long) x.parts(a));
        for (int order = 0; order < 3; order++) {
            all.add((long) x.order(order, a));
        }
        for (int kind = 0; kind < 5; kind++) {
            all.add((long) x.cost(a, kind, 1));
        }
    }

    private static void addBook(List<Long> all, NeighbourBook x) {
        int bits = x.count(3);
        for (int i = 0; i <= bits && i < 60; i++) {
            all.add((long) x.bit(i));
        }
        for (int i = 0; i < 5; i++) {
            all.add((long) x.place(i));
        }
        for (int use = 0; use < 8; use++) {
            all.add((long) x.would(use, 0));
        }
        all.add(x.sum());
        all.add((long) x.judge());
    }

    private static void addRules(List<Long> all, NeighbourBook x) {
        for (int use = 0; use < 8; use++) {
            all.add((long) x.form(use, 1));
        }
        all.add((long) x.setting(0, 3));
        all.add((long) x.setting(1, 2));
        all.add((long) x.setting(2, 4));
    }
}
