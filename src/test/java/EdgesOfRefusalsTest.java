import java.util.ArrayList;
import java.util.LinkedHashMap;
import java.util.List;
import java.util.Map;
import java.util.function.Supplier;
import java.util.function.ToLongFunction;

/** The sentences on refusals, on how long an object is used, and on what asks alone. */
public final class EdgesOfRefusalsTest extends Edges {
    private static final int[] OUTSIDE = {LEAST, LEAST + 1, -1000, -2, -1, 48, 49, 1000, 100001, MOST - 1, MOST};
    private static final int[] NUMBERS = {
        LEAST, -2, -1, 0, 1, 2, 3, 4, 5, 6, 7, 8, 9, 10, 48, 255, 256, 100000, 100001, MOST};

    public static void main(String[] args) {
        run(new EdgesOfRefusalsTest());
    }

    private interface Two {
        long ask(NeighbourBook x, int a, int b);
    }

    private interface One {
        long ask(NeighbourBook x, int a);
    }

    private static Map<String, Two> askingTwo() {
        Map<String, Two> calls = new LinkedHashMap<>();
        calls.put("has", NeighbourBook::has);
        calls.put("next", NeighbourBook::next);
        calls.put("degree", NeighbourBook::degree);
        calls.put("meet", NeighbourBook::meet);
        calls.put("back", NeighbourBook::back);
        calls.put("length", NeighbourBook::length);
        calls.put("told", NeighbourBook::told);
        calls.put("would", NeighbourBook::would);
        calls.put("order", NeighbourBook::order);
        calls.put("far", NeighbourBook::far);
        for (int k : new int[] {LEAST, 0, 1, 2, MOST}) {
            calls.put("cost, k " + k, (x, a, b) -> x.cost(a, b, k));
        }
        return calls;
    }

    private static Map<String, Two> changingTwo() {
        Map<String, Two> calls = new LinkedHashMap<>();
        calls.put("pair", NeighbourBook::pair);
        calls.put("drop", NeighbourBook::drop);
        calls.put("form", NeighbourBook::form);
        calls.put("setting", NeighbourBook::setting);
        calls.put("alter", NeighbourBook::alter);
        return calls;
    }

    private static Map<String, One> askingOne() {
        Map<String, One> calls = new LinkedHashMap<>();
        calls.put("looked", NeighbourBook::looked);
        calls.put("bit", NeighbourBook::bit);
        calls.put("place", NeighbourBook::place);
        calls.put("parts", NeighbourBook::parts);
        calls.put("count", NeighbourBook::count);
        calls.put("best", (x, a) -> x.best());
        calls.put("sum", (x, a) -> x.sum());
        calls.put("judge", (x, a) -> x.judge());
        calls.put("threes", (x, a) -> x.threes());
        return calls;
    }

    private static NeighbourBook without() {
        NeighbourBook x = of(4, row(3), row(0, 1, 2), row(0, 1, 2));
        x.form(KIND, 4);
        x.setting(2, 2);
        return x;
    }

    /** A book with PATCHES, altered bits, and FORMS and settings told anew. */
    private static NeighbourBook lived() {
        NeighbourBook x = packed(without());
        x.alter(0, 9);
        x.pair(3, 3);
        x.drop(0, 3);
        x.form(GAP, 7);
        x.setting(0, 5);
        return x;
    }

    private static NeighbourBook renumbered() {
        NeighbourBook x = lived();
        x.renumber(2);
        return x;
    }

    /** Without a book, with one, with one and what changed since, and with none any more. */
    private static List<Supplier<NeighbourBook>> states() {
        List<Supplier<NeighbourBook>> all = new ArrayList<>();
        all.add(EdgesOfRefusalsTest::without);
        all.add(() -> packed(without()));
        all.add(EdgesOfRefusalsTest::lived);
        all.add(EdgesOfRefusalsTest::renumbered);
        return all;
    }

    private static boolean isRefusal(long answer) {
        return answer == BAD || answer == STATE || answer == FULL;
    }

    /** After the call the object answers as a twin: always if it asks alone, else if it is refused. */
    private void stays(String call, Supplier<NeighbourBook> twin, List<Long> due, ToLongFunction<NeighbourBook> made, boolean always) {
        NeighbourBook x = twin.get();
        long answer = made.applyAsLong(x);
        if (always || isRefusal(answer)) {
            due(call + " answered " + answer + " and changed something: 1", answersOf(x).equals(due) ? 0 : 1, 0);
        }
    }

    private void staysByTwo(Map<String, Two> calls, boolean always) {
        for (Supplier<NeighbourBook> state : states()) {
            List<Long> due = answersOf(state.get());
            for (Map.Entry<String, Two> call : calls.entrySet()) {
                for (int a : NUMBERS) {
                    for (int b : NUMBERS) {
                        String text = call.getKey() + "(" + a + ", " + b + ")";
                        stays(text, state, due, x -> call.getValue().ask(x, a, b), always);
                    }
                }
            }
        }
    }

    private void staysByOne(Map<String, One> calls, boolean always) {
        for (Supplier<NeighbourBook> state : states()) {
            List<Long> due = answersOf(state.get());
            for (Map.Entry<String, One> call : calls.entrySet()) {
                for (int a : NUMBERS) {
                    stays(call.getKey() + "(" + a + ")", state, due, x -> call.getValue().ask(x, a), always);
                }
            }
        }
    }

    // ---- What it is

    @Says("What it is: An object is used for at most 512 calls after it has been made [the 512th is answered, too]")
    void fiveHundredAndTwelveCalls() {
        NeighbourBook x = new NeighbourBook(48);
        int calls = 0;
        for (int a = 0; a < 8; a++) {
            for (int b = 0; b < 48; b++) {
                due("pair(" + a + ", " + b + ")", x.pair(a, b), 1);
                calls++;
            }
        }
        // A SPAN of 48, four SAME up to DEPTH 2, none of them to copy from, so a SPAN anew; 40 without THINGS.
        int bits = 19 + (6 + 6 + 8 + 8) + 25 + (6 + 6) + 40 * 2;
        while (calls < 511) {
            due("pack(), call " + calls, x.pack(), bits);
            calls++;
        }
        due("the 512th", x.judge(), NONE);
    }

    @Says("What it is: An object is used for at most 512 calls [40 PATCHES coming and going all the while]")
    void fiveHundredAndTwelveChanges() {
        NeighbourBook x = packed(new NeighbourBook(48));
        int calls = 1;
        for (int round = 0; round < 6; round++) {
            for (int b = 0; b < 40; b++) {
                due("pair(0, " + b + ")", x.pair(0, b), 1);
                calls++;
            }
            due("pair(1, 1)", x.pair(1, 1), FULL);
            for (int b = 0; b < 40; b++) {
                due("drop(0, " + b + ")", x.drop(0, b), 1);
                calls++;
            }
            due("count(2)", x.count(2), 0);
            calls += 2;
        }
        due("calls", calls < 512 ? 1 : 0, 1);
        due("forms()", x.forms(), 96);
    }

    // ---- Terms: refusals

    @Says("Terms: Refusals are answers, the first of these that fits: BAD ... STATE, FULL. [BAD and STATE]")
    void badAheadOfState() {
        NeighbourBook x = of(4, row(0));
        for (int v : OUTSIDE) {
            due("told(" + v + ", 0)", x.told(v, 0), BAD);
            due("told(0, " + v + ")", x.told(0, v), BAD);
            due("looked(" + v + ")", x.looked(v), BAD);
            due("would(" + v + ", 0)", x.would(v, 0), BAD);
            due("would(0, " + v + ")", x.would(0, v), BAD);
            due("cost(" + v + ", 4, 0), as without THINGS", x.cost(v, 4, 0), BAD);
            due("cost(1, 3, " + v + "), as not the same", x.cost(1, 3, v), BAD);
        }
        due("with all right: told(0, 0)", x.told(0, 0), STATE);
        due("looked(0)", x.looked(0), STATE);
        due("would(0, 0)", x.would(0, 0), STATE);
        due("cost(1, 4, 0)", x.cost(1, 4, 0), STATE);
        due("cost(1, 3, 1)", x.cost(1, 3, 1), STATE);
    }

    @Says("Terms: Refusals are answers, the first of these that fits: BAD ... STATE, FULL. [BAD and FULL]")
    void badAheadOfFull() {
        NeighbourBook x = packed(of(48, row(), span(0, 1)));
        for (int b = 0; b < 40; b++) {
            x.pair(0, b);
        }
        for (int v : OUTSIDE) {
            due("pair(" + v + ", 0)", x.pair(v, 0), BAD);
            due("pair(2, " + v + ")", x.pair(2, v), BAD);
            due("drop(" + v + ", 0)", x.drop(v, 0), BAD);
            due("drop(1, " + v + ")", x.drop(1, v), BAD);
        }
        due("with all right: pair(2, 0)", x.pair(2, 0), FULL);
        due("drop(1, 0)", x.drop(1, 0), FULL);
    }

    @Says("Terms: Refusals are answers [of sum(), too, which is a long]")
    void refusalOfALong() {
        due("sum()", new NeighbourBook(1).sum(), -3L);
    }

    @Says("Terms: What is refused changes nothing. [calls with two or three numbers]")
    void refusedByTwoNumbers() {
        staysByTwo(changingTwo(), false);
    }

    @Says("Terms: What is refused changes nothing. [renumber, forms]")
    void refusedByOneNumber() {
        Map<String, One> calls = new LinkedHashMap<>();
        calls.put("renumber", NeighbourBook::renumber);
        calls.put("forms", (x, a) -> x.forms());
        staysByOne(calls, false);
    }

    @Says("Terms: What is refused changes nothing. [nor does what asks alone, with any numbers]")
    void askingChangesNothing() {
        staysByTwo(askingTwo(), true);
        staysByOne(askingOne(), true);
    }

    @Says("The public face: NONE = -1, BAD = -2, STATE = -3, FULL = -4;")
    void constants() {
        due("NONE", NeighbourBook.NONE, -1);
        due("BAD", NeighbourBook.BAD, -2);
        due("STATE", NeighbourBook.STATE, -3);
        due("FULL", NeighbourBook.FULL, -4);
    }
}
