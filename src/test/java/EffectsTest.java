import java.util.ArrayList;
import java.util.Arrays;
import java.util.List;
import java.util.Map;
import java.util.TreeMap;
import java.util.TreeSet;
import java.util.function.Consumer;

/** What each call changes, and that it leaves all else as it was: the state is looked at in parts, ahead and behind. */
public final class EffectsTest extends Edges {
    private static final String PAIRS = "pairs", FORMS = "forms", WINDOW = "w", CHAIN = "r", STEP = "s",
        PATCHES = "patches", TELLINGS = "tellings", NUMBERS = "numbers", LIE = "where bits lie", PLACES = "places", BITS = "bits",
        JUDGED = "judged";

    public static void main(String[] args) {
        run(new EffectsTest());
    }

    // ---- the state, by parts

    private static Map<String, List<Long>> partsOf(NeighbourBook x) {
        Map<String, List<Long>> all = new TreeMap<>();
        int n = x.count(0);
        for (int a = 0; a < n; a++) {
            for (int b = 0; b < n; b++) {
                put(all, PAIRS, x.has(a, b));
            }
            put(all, TELLINGS, x.told(a, 0), x.told(a, 1), x.told(a, 2));
            put(all, LIE, x.told(a, 3), x.told(a, 4));
            put(all, PLACES, x.place(a));
        }
        put(all, PLACES, x.count(4));
        put(all, PATCHES, x.count(2));
        put(all, JUDGED, x.judge());
        int bits = x.count(3);
        put(all, BITS, x.sum(), bits);
        for (int i = 0; i <= bits; i++) {
            put(all, BITS, x.bit(i));
        }
        putRules(all, x);
        return all;
    }

    /** Told by putting another one there, and then the first one again. */
    private static void putRules(Map<String, List<Long>> all, NeighbourBook x) {
        for (int use = 0; use < 8; use++) {
            put(all, NUMBERS, x.would(use, 0), x.would(use, 2));
            int form = x.form(use, 0);
            x.form(use, form);
            put(all, FORMS, form);
        }
        String[] names = {WINDOW, CHAIN, STEP};
        for (int what = 0; what < 3; what++) {
            int v = x.setting(what, 1);
            x.setting(what, v);
            put(all, names[what], v);
        }
    }

    private static void put(Map<String, List<Long>> all, String part, long... answers) {
        for (long answer : answers) {
            all.computeIfAbsent(part, name -> new ArrayList<>()).add(answer);
        }
    }

    /** The call changes these parts, each of them, and no other. */
    private void changes(String call, NeighbourBook x, Consumer<NeighbourBook> made, String... parts) {
        Map<String, List<Long>> ahead = partsOf(x);
        made.accept(x);
        Map<String, List<Long>> behind = partsOf(x);
        TreeSet<String> changed = new TreeSet<>();
        for (String part : ahead.keySet()) {
            if (!ahead.get(part).equals(behind.get(part))) {
                changed.add(part);
            }
        }
        TreeSet<String> wanted = new TreeSet<>(Arrays.asList(parts));
        due(call + " changed " + changed + " and not " + wanted + ": 1", changed.equals(wanted) ? 0 : 1, 0);
    }

    private static final String[] BOOK = {TELLINGS, NUMBERS, LIE, PLACES, BITS, JUDGED};

    private static String[] bookAnd(String... others) {
        List<String> all = new ArrayList<>(Arrays.asList(BOOK));
        all.addAll(Arrays.asList(others));
        return all.toArray(new String[0]);
    }

    /** Rows {3}, {0 1 2}, {0 1 2}, {} with FORMS and settings that are not those at first. */
    private static NeighbourBook four() {
        NeighbourBook x = of(4, row(3), row(0, 1, 2), row(0, 1, 2));
        x.form(COUNT, 4);
        x.setting(0, 2);
        x.setting(1, 4);
        x.setting(2, 2);
        return x;
    }

    private static NeighbourBook altered() {
        NeighbourBook x = packed(four());
        x.alter(0, 129);
        return x;
    }

    // ---- what changes

    @Says("Promise 2: A PAIR from a to b comes: 1; it is there: 0.")
    void pair() {
        changes("pair(3, 1)", four(), x -> due("pair(3, 1)", x.pair(3, 1), 1), PAIRS);
        changes("pair(0, 3)", four(), x -> due("pair(0, 3)", x.pair(0, 3), 0));
        changes("pair(3, 1), a BOOK", altered(), x -> due("pair(3, 1)", x.pair(3, 1), 1), PAIRS, PATCHES);
        changes("pair(0, 3), a BOOK", altered(), x -> due("pair(0, 3)", x.pair(0, 3), 0));
        NeighbourBook y = altered();
        y.pair(3, 1);
        due("back(1, 2)", y.back(1, 2), 3);
        due("the other way there is none", y.has(1, 3), 0);
    }

    @Says("Promise 3: The PAIR from a to b goes: 1; it is not there: 0.")
    void drop() {
        changes("drop(1, 1)", four(), x -> due("drop(1, 1)", x.drop(1, 1), 1), PAIRS);
        changes("drop(3, 0)", four(), x -> due("drop(3, 0)", x.drop(3, 0), 0));
        changes("drop(1, 1), a BOOK", altered(), x -> due("drop(1, 1)", x.drop(1, 1), 1), PAIRS, PATCHES);
        changes("drop(3, 0), a BOOK", altered(), x -> due("drop(3, 0)", x.drop(3, 0), 0));
        changes("drop and pair again", altered(), x -> due("both", x.drop(1, 1) + x.pair(1, 1), 2));
    }

    @Says("Promise 9: The FORM (0 .. 9) of a USE: what it was. BAD.")
    void form() {
        for (int use = 0; use < 8; use++) {
            int told = use;
            changes("form(" + use + ", 9)", altered(), x -> x.form(told, 9), FORMS);
        }
        changes("form(1, 4), as it is", altered(), x -> due("form(1, 4)", x.form(1, 4), 4));
        NeighbourBook y = new NeighbourBook(4);
        for (int use = 0; use < 8; use++) {
            due("form(" + use + ", " + (use + 2) + ")", y.form(use, use + 2), 1);
        }
        for (int use = 0; use < 8; use++) {
            due("form(" + use + ", 0), each of its own", y.form(use, 0), use + 2);
        }
    }

    @Says("Promise 10: w (what = 0), r (1), s (2): what it was. BAD.")
    void setting() {
        changes("setting(0, 7)", altered(), x -> due("setting(0, 7)", x.setting(0, 7), 2), WINDOW);
        changes("setting(1, 0)", altered(), x -> due("setting(1, 0)", x.setting(1, 0), 4), CHAIN);
        changes("setting(2, 9)", altered(), x -> due("setting(2, 9)", x.setting(2, 9), 2), STEP);
    }

    @Says("Promise 13: THE BOOK is packed of the PAIRS as they are (there are no PATCHES then): how many bits.")
    void pack() {
        changes("pack()", four(), x -> x.pack(), BOOK);
        changes("pack() of the same", packed(four()), x -> x.pack());
        changes("pack() of what was altered", altered(), x -> x.pack(), BITS, JUDGED);
        NeighbourBook patched = packed(four());
        for (int b = 0; b < 3; b++) {
            patched.pair(3, b);
        }
        changes("pack() of PATCHES", patched, x -> x.pack(), PATCHES, TELLINGS, NUMBERS, LIE, BITS);
        due("count(3)", patched.count(3), patched.pack());
        NeighbourBook stepped = packed(four());
        stepped.setting(2, 3);
        changes("pack() by another s", stepped, x -> x.pack(), PLACES);
        NeighbourBook formed = packed(four());
        formed.form(KIND, 3);
        due("form(COUNT, 5)", formed.form(COUNT, 5), 4);
        int bits = formed.pack();
        due("told(0, 4), by the FORMS then", formed.told(0, 4), formed.cost(0, formed.told(0, 0), 0));
        due("count(3)", formed.count(3), bits);
    }

    @Says("Promise 17: Each USE gets the FORM ... and THE BOOK is written anew in these, with the same TELLINGS (and s as it was packed)")
    void forms() {
        NeighbourBook x = four();
        x.form(FIRST, 9);
        x.pack();
        x.setting(0, 0);
        x.setting(1, 0);
        x.setting(2, 9);
        x.form(GAP, 9);
        changes("forms()", x, y -> y.forms(), FORMS, LIE, PLACES, BITS);
        due("count(4), by s 2", x.count(4), 2);
        due("place(1)", x.place(1), x.told(2, 3));
        NeighbourBook again = packed(four());
        again.forms();
        changes("forms() again", again, y -> y.forms());
        NeighbourBook z = packed(four());
        z.forms();
        z.alter(0, 3);
        changes("forms() of what was altered", z, y -> y.forms(), BITS, JUDGED);
    }

    @Says("Promise 22: Bits of byte i of THE BOOK are turned (mask 1 .. 255): what it is then.")
    void alter() {
        changes("alter(0, 129)", packed(four()), x -> x.alter(0, 129), BITS, JUDGED);
        changes("alter(1, 16), altered already", altered(), x -> x.alter(1, 16), BITS);
        changes("alter(0, 129), as it was", altered(), x -> x.alter(0, 129), BITS, JUDGED);
        changes("alter twice", packed(four()), x -> due("a byte", x.alter(1, 7) ^ x.alter(1, 7), 7));
        NeighbourBook y = packed(four());
        int[] ahead = new int[16];
        for (int i = 0; i < 16; i++) {
            ahead[i] = y.bit(i);
        }
        y.alter(0, Integer.parseInt("10100001", 2));
        for (int i = 0; i < 16; i++) {
            boolean turned = i == 0 || i == 2 || i == 7;
            due("bit(" + i + ")", y.bit(i), turned ? 1 - ahead[i] : ahead[i]);
        }
    }

    @Says("Promise 25: The THING at place i of an ORDER becomes i, for all i: how many PAIRS go to a lesser THING then. THE BOOK and PATCHES are gone.")
    void renumber() {
        // 1, 2, 0, 3: from 1, which was 2, a PAIR goes to 0, which was 1.
        changes("renumber(0), no BOOK", four(), x -> due("renumber(0)", x.renumber(0), 1), PAIRS);
        changes("renumber(0)", altered(), x -> due("renumber(0)", x.renumber(0), 1), bookAnd(PAIRS));
        NeighbourBook patched = altered();
        patched.pair(3, 1);
        changes("renumber(0), PATCHES", patched, x -> due("renumber(0)", x.renumber(0), 2), bookAnd(PAIRS, PATCHES));
        // 0, 3, 1, 2: from 2 a PAIR goes to 0, from 3 to 0 and 2.
        changes("renumber(1)", four(), x -> due("renumber(1)", x.renumber(1), 3), PAIRS);
        NeighbourBook y = of(3, row(0, 1, 2), row(1), row());
        y.pack();
        changes("renumber(0), as it is", y, x -> due("renumber(0)", x.renumber(0), 0), BOOK);
    }

    @Says("Promise 25: The THING at place i of an ORDER becomes i, for all i [so that each PAIR goes from and to what its THINGS become]")
    void renumberMovesEachPair() {
        for (int order = 0; order < 3; order++) {
            NeighbourBook x = of(6, row(5), row(0, 1, 5), row(3), row(), row(1, 2), row(4, 5));
            int[] thing = new int[6];
            int[][] ahead = new int[6][6];
            for (int i = 0; i < 6; i++) {
                thing[i] = x.order(order, i);
                for (int j = 0; j < 6; j++) {
                    ahead[i][j] = x.has(i, j);
                }
            }
            x.renumber(order);
            for (int i = 0; i < 6; i++) {
                for (int j = 0; j < 6; j++) {
                    due("has(" + i + ", " + j + ") by " + order, x.has(i, j), ahead[thing[i]][thing[j]]);
                }
            }
        }
    }
}
