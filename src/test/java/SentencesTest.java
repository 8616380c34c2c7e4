import java.io.IOException;
import java.nio.charset.StandardCharsets;
import java.nio.file.Files;
import java.nio.file.Path;

/** The sentences that name no boundary: what is written, by which numbers, and what the calls answer of it. */
public final class SentencesTest extends Edges {
    private static final int PLAIN = 0, SPANS = 1, COPIED = 2, SAME = 3, DENSE = 4;
    /** By STEPPED, k 6, each number below 64 has as many bits. */
    private static final int SEVEN_BITS = 9;
    private static final Path PROGRAM = Path.of("src/main/java/NeighbourBook.java");

    public static void main(String[] args) {
        run(new SentencesTest());
    }

    private static String bitsOf(NeighbourBook x, int a) {
        StringBuilder bits = new StringBuilder();
        int from = x.told(a, 3);
        int to = from + x.told(a, 4);
        for (int i = from; i < to; i++) {
            bits.append(x.bit(i));
        }
        return bits.toString();
    }

    private void written(String what, String got, String want) {
        due(what + " as " + want + ", and not as " + got + ": 0", got.equals(want) ? 0 : 1, 0);
    }

    // ---- What it is, The public face

    @Says("What it is: A neighbour book: who is joined to whom, each row written in few bits by one of five tellings, "
        + "some by likeness to a row ahead; packed by the cheapest telling")
    void eachTellingInOneBook() {
        NeighbourBook x = fiveTellings();
        x.pack();
        for (int kind = 0; kind < 5; kind++) {
            due("told(" + kind + ", 0)", x.told(kind, 0), kind);
            due("told(" + kind + ", 4)", x.told(kind, 4), x.cost(kind, kind, x.told(kind, 1)));
            for (int other = 0; other < 5; other++) {
                int bits = x.cost(kind, other, Math.max(1, x.told(kind, 1)));
                due(other + " is cheaper for " + kind + ": 1", bits >= 0 && bits < x.told(kind, 4) ? 1 : 0, 0);
            }
        }
    }

    /** Of each THING from 0 to 4 the KIND of its number is the cheapest: by 5, 15, 19, 6 and 33 bits. */
    private static NeighbourBook fiveTellings() {
        int[] copied = {1, 2, 3, 4, 5, 6, 7, 8, 11, 12};
        return of(24, row(0), span(1, 12), copied, copied, row(4, 6, 7, 9, 10, 12, 14, 15, 17, 18, 20, 22, 23));
    }

    @Says("What it is: forms of numbers chosen by counting, the best copying found over trees")
    void formsAndBest() {
        NeighbourBook x = fiveTellings();
        int packed = x.pack();
        due("best() is above pack(): 1", x.best() > packed ? 1 : 0, 0);
        due("forms() is above pack(): 1", x.forms() > packed ? 1 : 0, 0);
        int sum = 0;
        for (int use = 0; use < 8; use++) {
            int least = x.would(use, 0);
            for (int form = 1; form < 10; form++) {
                least = Math.min(least, x.would(use, form));
            }
            sum += least;
        }
        // The bits of DENSE stand for themselves: 18 between 4 and 23.
        due("all numbers in their cheapest FORMS", x.count(3), sum + 18);
    }

    @Says("What it is: asked as it is with what changed since")
    void askedWithWhatChangedSince() {
        NeighbourBook x = packed(of(5, row(1, 2), row(2), row(), row(4), row(3)));
        due("pair(2, 3)", x.pair(2, 3), 1);
        due("drop(0, 1)", x.drop(0, 1), 1);
        due("has(2, 3)", x.has(2, 3), 1);
        due("has(0, 1)", x.has(0, 1), 0);
        due("next(0, 0)", x.next(0, 0), 2);
        due("next(2, 0)", x.next(2, 0), 3);
        due("degree(2, 0)", x.degree(2, 0), 1);
        due("degree(1, 1)", x.degree(1, 1), 0);
        due("meet(0, 1)", x.meet(0, 1), 1);
        due("meet(2, 4)", x.meet(2, 4), 1);
        due("back(3, 0)", x.back(3, 0), 2);
        due("back(1, 0)", x.back(1, 0), NONE);
        due("order(0, 0)", x.order(0, 0), 0);
        due("order(1, 1)", x.order(1, 1), 2);
        due("threes()", x.threes(), 0);
        due("parts(NONE)", x.parts(NONE), 1);
        due("parts(0)", x.parts(0), 5);
        due("far(0, 4)", x.far(0, 4), 3);
        due("far(0, 1)", x.far(0, 1), NONE);
        due("count(1)", x.count(1), 5);
        due("cost(2, 0, 0)", x.cost(2, PLAIN, 0), 1 + 3 + 3);
    }

    @Says("What it is: put into other orders, walked, counted; its bits looked at, altered, judged.")
    void ordersWalksAndBits() {
        // 2 first, as it has the most; then 0 and 1.
        NeighbourBook x = packed(of(3, row(1), row(2), row(0, 1)));
        due("bit(0)", x.bit(0), 1);
        due("alter(0, 128)", x.alter(0, 128), Integer.parseInt("00100111", 2));
        due("bit(0) then", x.bit(0), 0);
        due("judge()", x.judge(), 0);
        due("far(0, 2)", x.far(0, 2), 2);
        due("threes()", x.threes(), 1);
        due("renumber(0)", x.renumber(0), 1);
        due("2 is 0, 0 is 1: has(0, 1)", x.has(0, 1), 1);
        due("1 is 2: has(0, 2)", x.has(0, 2), 1);
        due("has(1, 2)", x.has(1, 2), 1);
        due("has(2, 0)", x.has(2, 0), 1);
        due("count(1)", x.count(1), 4);
    }

    @Says("Terms: Ahead of the calls `pair`, `drop`, `has`, `next`, `degree`, `meet`, `back` the interface says: ---- pairs.")
    void headOfPairs() {
        stands("// ---- pairs", "// ---- packing", "pair", "drop", "has", "next", "degree", "meet", "back");
    }

    @Says("Terms: Ahead of the calls `form`, `setting`, `length`, `cost`, `pack`, `told`, `looked`, `would`, `forms`, `best` "
        + "the interface says: ---- packing.")
    void headOfPacking() {
        stands("// ---- packing", "// ---- bits",
            "form", "setting", "length", "cost", "pack", "told", "looked", "would", "forms", "best");
    }

    @Says("Terms: Ahead of the calls `bit`, `place`, `sum`, `alter`, `judge` the interface says: ---- bits.")
    void headOfBits() {
        stands("// ---- bits", "// ---- orders, walks", "bit", "place", "sum", "alter", "judge");
    }

    @Says("Terms: Ahead of the calls `order`, `renumber`, `threes`, `parts`, `far`, `count` the interface says: ---- orders, walks.")
    void headOfOrders() {
        stands("// ---- orders, walks", "// ---- helpers", "order", "renumber", "threes", "parts", "far", "count");
    }

    /** Between two heads of the program stand these public calls, in this order, and no other. */
    private void stands(String head, String nextHead, String... calls) {
        String program = program();
        int from = program.indexOf(head + "\n");
        int to = program.indexOf(nextHead + "\n");
        due(head + " stands: 1", from >= 0 && from < to ? 1 : 0, 1);
        String[] found = program.substring(Math.max(0, from), Math.max(0, Math.max(from, to))).split("\n    public ");
        due("calls behind " + head, found.length - 1, calls.length);
        for (int i = 0; i < calls.length && i + 1 < found.length; i++) {
            due(calls[i] + " stands: 1", found[i + 1].matches("(?s)(int|long) " + calls[i] + "\\(.*") ? 1 : 0, 1);
        }
    }

    private static String program() {
        try {
            return Files.readString(PROGRAM, StandardCharsets.UTF_8);
        } catch (IOException failed) {
            throw new IllegalStateException(failed);
        }
    }

    // ---- Terms

    @Says("Terms: BAD (a number is not as told; there is no such thing), STATE, FULL.")
    void badOfBothMakes() {
        NeighbourBook x = packed(new NeighbourBook(3));
        due("no such THING: has(3, 0)", x.has(3, 0), BAD);
        due("no such USE: would(8, 0)", x.would(8, 0), BAD);
        due("no such ORDER: renumber(3)", x.renumber(3), BAD);
        due("no such byte: alter(1, 1)", x.alter(1, 1), BAD);
        due("not as told: next(0, -1)", x.next(0, -1), BAD);
        due("not as told: setting(2, 0)", x.setting(2, 0), BAD);
        due("not as told: length(0, 100001)", x.length(0, 100001), BAD);
        due("not as told: alter(0, 256)", x.alter(0, 256), BAD);
    }

    @Says("Terms 2: NUMBERS of 0 and more are written as bits, by FORMS")
    void asManyBitsAsLengthTells() {
        for (int form = 0; form < 10; form++) {
            for (int b = 0; b < 48; b += 5) {
                NeighbourBook x = new NeighbourBook(48);
                x.form(FIRST, form);
                x.pair(20, b);
                x.pack();
                int folded = b < 20 ? 2 * (20 - b) - 1 : 2 * (b - 20);
                // KIND 0 and COUNT 1 stand ahead; where FIRST is dear by all KINDS, PLAIN is still the cheapest.
                due("FIRST " + folded + " by " + form, x.told(20, 4), 1 + 3 + x.length(form, folded));
            }
        }
    }

    @Says("Terms 2: USES of numbers: 0 KIND, 1 COUNT, 2 FIRST, 3 GAP, 4 BACK, 5 BLOCK, 6 BEGIN, 7 LENGTH; each has a FORM")
    void numbersByUses() {
        int[][][] numbers = {
            {{0}, {11}, {3}, {1, 2, 0, 0, 0, 3, 1, 0, 0, 3}, {}, {}, {}, {}},
            {{1}, {2, 4}, {3}, {4, 1, 9, 7}, {}, {}, {6}, {1, 0}},
            {{2}, {3, 2, 2}, {20}, {4, 7}, {0}, {1, 0, 0}, {6}, {1, 0}},
            {{3}, {}, {}, {}, {1}, {}, {}, {}},
            {{4}, {20}, {3}, {}, {}, {}, {}, {}}};
        int[] distances = {0, 0, 1, 2, 0};
        int[] bare = {0, 0, 0, 0, 19};
        for (int kind = 0; kind < 5; kind++) {
            for (int use = 0; use < 8; use++) {
                int due = bare[kind];
                for (int other = 0; other < 8; other++) {
                    for (int v : numbers[kind][other]) {
                        due += other == use ? v + 1 : 7;
                    }
                }
                due("USE " + use + " by UNARY, KIND " + kind, inUnary(use).cost(2, kind, distances[kind]), due);
            }
        }
    }

    /** Two SPANS and others; copied from 1 a THING, not one, a THING, not two; and the same as of 0. */
    private static NeighbourBook inUnary(int use) {
        int[] row = {0, 2, 5, 6, 7, 8, 12, 14, 15, 16, 20};
        NeighbourBook x = of(24, row, row(0, 1, 2, 10, 11), row);
        for (int other = 0; other < 8; other++) {
            x.form(other, other == use ? 0 : SEVEN_BITS);
        }
        return x;
    }

    @Says("Terms 3: TELLINGS of the ROW of x, with d THINGS: their KIND is written first (USE KIND). With numbers by USES, in order: "
        + "... 0 PLAIN: COUNT d; FIRST the first one less x, FOLDED; of each other one GAP it less the one ahead, less 1 (without any: COUNT alone).")
    void plainAsWritten() {
        NeighbourBook x = packed(of(9, row(), row(), row(0, 4, 8)));
        written("0 4 8, of 2", bitsOf(x, 2), "1" + "00100" + "00100" + "00100" + "00100");
        written("without any", bitsOf(x, 0), "1" + "1");
    }

    @Says("Terms 3: 1 SPANS: a SPAN is a run of three or more THINGS, each 1 more than the one ahead, as long as can be. "
        + "COUNT how many SPANS; of each its first THING: of the first SPAN BEGIN, less x, FOLDED, "
        + "of others GAP, less the last THING of the SPAN ahead, less 2; then LENGTH how many, less 3. "
        + "Then the THINGS that are in no SPAN, as PLAIN from COUNT on.")
    void spansAsWritten() {
        NeighbourBook x = packed(of(12, row(3, 4, 5, 6, 9, 10, 11)));
        written("3 to 6, 9 to 11", bitsOf(x, 0), "010" + "011" + "00111" + "010" + "010" + "1" + "1");
        NeighbourBook y = packed(of(30, row(), row(), row(0, 5, 6, 7, 8, 9, 10, 11, 12, 13)));
        // BEGIN 3, LENGTH 6; then COUNT 1, FIRST - 2.
        written("0, 5 to 13, of 2", bitsOf(y, 2), "010" + "010" + "00111" + "00111" + "010" + "00100");
    }

    @Says("Terms 3: 2 COPIED from the ROW of y = x - k, k 1 to w: BACK k - 1. The THINGS of y's ROW, in order, are in BLOCKS by turns: "
        + "those that are in x's ROW, too (first; perhaps none), those that are not, and so on, each BLOCK but the first one of one or more. "
        + "COUNT how many BLOCKS, less 1; then of each but the last one BLOCK how many, the first as it is, others less 1. "
        + "Then the THINGS that are not in y's ROW, as SPANS from COUNT on.")
    void copiedAsWritten() {
        int[] ahead = {1, 3, 4, 8, 10, 15, 17, 22, 23, 30};
        NeighbourBook x = packed(of(48, ahead, row(1, 3, 4, 15, 17, 22, 23, 30, 40)));
        // 1 3 4; not 8 10; 15 to 30, which are not told; no SPAN; one other, 40 less 1.
        written("of 1", bitsOf(x, 1), "011" + "1" + "011" + "00100" + "010" + "1" + "010" + "0000001001111");
        NeighbourBook y = packed(of(48, ahead, row(), row(8, 10, 15, 17, 22, 23, 30, 40, 41, 42)));
        // From 0, k 2: none; not 1 3 4; the others; a SPAN at 40 less 2; no other.
        written("of 2", bitsOf(y, 2), "011" + "010" + "011" + "1" + "011" + "010" + "0000001001101" + "1" + "1");
    }

    @Says("Terms 3: 3 SAME (just where x's ROW is y's): BACK k - 1.")
    void sameAsWritten() {
        NeighbourBook x = packed(of(4, row(0, 2), row(1), row(3), row(0, 2)));
        written("of 3, k 3", bitsOf(x, 3), "00100" + "011");
    }

    @Says("Terms 3: 4 DENSE (not without THINGS): FIRST the first one less x, FOLDED; COUNT the last one less the first; "
        + "then for each THING between both, in order, a bit: 1, if it is in the ROW.")
    void denseAsWritten() {
        NeighbourBook x = of(24);
        for (int b : new int[] {4, 6, 7, 9, 10, 12, 14, 15, 17, 18, 20, 22, 23}) {
            x.pair(5, b);
            x.pair(3, b);
        }
        x.setting(0, 0);
        x.pack();
        // The first one less 5 is - 1, less 3 it is 1; the last one less the first 19.
        written("of 5", bitsOf(x, 5), "00101" + "010" + "000010100" + "011011010110110101");
        written("of 3", bitsOf(x, 3), "00101" + "011" + "000010100" + "011011010110110101");
    }

    @Says("Terms 3: DEPTH is 0 of KINDS 0, 1, 4, of others 1 more than that of y's ROW; it may be r at most.")
    void depths() {
        NeighbourBook x = packed(fiveTellings());
        due("told(0, 2)", x.told(0, 2), 0);
        due("told(1, 2)", x.told(1, 2), 0);
        due("told(2, 2), from 1", x.told(2, 2), 1);
        due("told(3, 2), from 2", x.told(3, 2), 2);
        due("told(4, 2)", x.told(4, 2), 0);
        due("count(5)", x.count(5), 2);
    }

    @Says("Terms 4: THE BOOK, as it is packed: for x from 0 on the TELLING with fewest bits (its KIND with them); "
        + "of several that of the lesser KIND, then the lesser k.")
    void fromTheFirstOn() {
        NeighbourBook x = fourAlike();
        x.setting(1, 1);
        // What is told of 1 keeps 2 and 3 from copying it; none of them looks at what comes behind.
        due("pack()", x.pack(), 8 + 6 + 8 + 8);
        for (int a = 1; a < 4; a++) {
            due("told(" + a + ", 0)", x.told(a, 0), SAME);
            due("told(" + a + ", 1)", x.told(a, 1), a);
        }
    }

    @Says("Terms 4: Its bits stand one behind the other. PLACES tell where the bits begin of each s-th THING (0, s, 2 s ..; STEP s 1 to 9, at first 4).")
    void bitsAndPlaces() {
        for (int step = 1; step <= 9; step++) {
            NeighbourBook x = fiveTellings();
            x.setting(2, step);
            x.pack();
            int at = 0;
            for (int a = 0; a < 24; a++) {
                due("the bits of " + a + " begin", x.told(a, 3), at);
                if (a % step == 0) {
                    due("place(" + a / step + "), s " + step, x.place(a / step), at);
                }
                at += x.told(a, 4);
            }
            due("all bits", x.count(3), at);
            due("PLACES, s " + step, x.count(4), (24 + step - 1) / step);
        }
    }

    @Says("Terms 4: To READ the ROW of x all bits are looked at from the PLACE of the greatest of those THINGS that is not above x, "
        + "to the end of x's; and if it is copied, y's ROW is READ.")
    void lookedAt() {
        // By s 4 the PLACES are those of 0, 4, 8 ..
        NeighbourBook x = packed(fiveTellings());
        int endOf1 = x.told(2, 3);
        int endOf2 = x.told(3, 3);
        int endOf3 = x.told(4, 3);
        due("looked(0)", x.looked(0), x.told(0, 4));
        due("looked(1)", x.looked(1), endOf1);
        due("looked(2), from 1", x.looked(2), endOf2 + endOf1);
        due("looked(3), from 2, from 1", x.looked(3), endOf3 + endOf2 + endOf1);
        due("looked(4)", x.looked(4), x.told(4, 4));
    }

    @Says("Terms 4: PAIRS that come or go while there is a BOOK are PATCHES (one that goes again, or comes again, is none any more): 40 at most.")
    void patches() {
        NeighbourBook x = of(10, row(0, 1, 2));
        due("pair(5, 5), no BOOK", x.pair(5, 5), 1);
        due("no PATCH", x.count(2), 0);
        x.pack();
        due("drop(5, 5)", x.drop(5, 5), 1);
        due("one", x.count(2), 1);
        due("pair(5, 6)", x.pair(5, 6), 1);
        due("two", x.count(2), 2);
        due("pair(5, 6) again: it is there", x.pair(5, 6), 0);
        due("two still", x.count(2), 2);
        due("pair(5, 5) comes again", x.pair(5, 5), 1);
        due("one still", x.count(2), 1);
        for (int b = 0; b < 39; b++) {
            due("pair", x.pair(6 + b / 10, b % 10), 1);
        }
        due("40", x.count(2), 40);
        due("one more", x.pair(9, 9), FULL);
        due("at most", x.count(2), 40);
    }

    @Says("Terms 5: ORDERS, each a row of all THINGS: 0 those with more THINGS in the ROW first, then by numbers. "
        + "1 by LAYERS: 0 first; behind each THING, in order, come those of its ROW that are not there; then the least one that is not there, and so on. "
        + "2 by KEYS: of a ROW the least of (b * 40503 modulo 65536) / 64, cut, for its THINGS b, 1024 without; then by numbers.")
    void orders() {
        // KEYS of 0 to 7: 0, 632, 241, 874, 483, 92, 725, 334.
        NeighbourBook x = of(8, row(4, 3), row(1), row(), row(4, 7), row(6), row(2, 5), row(0), row(1, 6, 3));
        int[][] lines = {
            {7, 0, 3, 5, 1, 4, 6, 2},
            {0, 3, 4, 7, 6, 1, 2, 5},
            {6, 5, 3, 0, 1, 7, 4, 2}};
        for (int order = 0; order < 3; order++) {
            for (int i = 0; i < 8; i++) {
                due("order(" + order + ", " + i + ")", x.order(order, i), lines[order][i]);
            }
        }
    }

    // ---- promises

    @Says("Promise 12: How many bits the TELLING of a's ROW, as it is now, has by a KIND (2, 3: from the ROW of a - k, whatever its DEPTH and w; "
        + "else k is not looked at), by the FORMS as they are now.")
    void cost() {
        int[] copied = {1, 3, 4, 5, 6, 7, 9, 12};
        NeighbourBook x = of(16, copied, copied, row(1, 3, 4, 5, 6, 7, 9));
        due("PLAIN", x.cost(2, PLAIN, 0), 1 + 7 + 3 + (3 + 1 + 1 + 1 + 1 + 3));
        due("SPANS", x.cost(2, SPANS, 0), 3 + 3 + (3 + 3) + 3 + 3 + 7);
        due("COPIED, k 1", x.cost(2, COPIED, 1), 3 + 1 + 3 + 7 + 1 + 1);
        due("COPIED, k 2", x.cost(2, COPIED, 2), 3 + 3 + 3 + 7 + 1 + 1);
        due("SAME, k 1, of 1", x.cost(1, SAME, 1), 5 + 1);
        due("DENSE", x.cost(2, DENSE, 0), 5 + 3 + 7 + 7);
        x.setting(0, 0);
        x.setting(1, 0);
        due("whatever w and r", x.cost(2, COPIED, 2), 18);
        x.form(BLOCK, 0);
        due("BLOCK 7 by UNARY", x.cost(2, COPIED, 2), 3 + 3 + 3 + 8 + 1 + 1);
        x.pair(2, 12);
        due("as it is now", x.cost(2, COPIED, 2), 3 + 3 + 1 + 1 + 1);
    }

    @Says("Promise 17: Each USE gets the FORM in which its numbers in THE BOOK have fewest bits (of several the lesser one), "
        + "and THE BOOK is written anew in these, with the same TELLINGS (and s as it was packed): how many bits.")
    void formsShownByLaterCalls() {
        NeighbourBook x = of(8, row(7), row(6), row(7), row(7));
        x.setting(0, 0);
        due("pack()", x.pack(), 4 * (1 + 3) + 7 + 7 + 7 + 7 + 4 * 2);
        // FIRST 14, 10, 10, 8: by 1 28 bits, by 5 21, by 6 and by 7 20; KIND 0 and COUNT 0 and 1 are least by UNARY.
        due("forms()", x.forms(), 4 * (1 + 2) + (5 + 5 + 5 + 5) + 4 * 2);
        due("count(3)", x.count(3), 40);
        due("told(3, 3)", x.told(3, 3), 24);
        due("told(3, 4)", x.told(3, 4), 8);
        due("the FORMS are these from now on: cost(0, 0, 0)", x.cost(0, PLAIN, 0), 1 + 2 + 5);
        due("best()", x.best(), 40);
        due("pack()", x.pack(), 40);
        due("form(FIRST, 1)", x.form(FIRST, 1), 6);
        due("form(COUNT, 1)", x.form(COUNT, 1), 0);
    }

    @Says("Promise 18: The least sum of bits (by the FORMS, w and r as they are now, of the PAIRS as they are) "
        + "if each ROW may be told by the cheapest of its KINDS 0, 1, 4, or by that of 2 and 3 from one ROW alone: "
        + "that of y with the fewest bits of all with k 1 to w (of several the nearest); DEPTH at most r.")
    void bestOfEachKind() {
        NeighbourBook x = fiveTellings();
        int without = 19 * 2;
        x.setting(0, 0);
        due("PLAIN, SPANS, PLAIN, PLAIN, DENSE", x.best(), 5 + 15 + 22 + 24 + 33 + without);
        x.setting(0, 1);
        due("2 is copied from 1, 3 is the same as 2", x.best(), 5 + 15 + 19 + 6 + 33 + without);
        x.setting(1, 1);
        due("3 alone, as 2 saves less by copying", x.best(), 5 + 15 + 22 + 6 + 33 + without);
        x.pair(3, 20);
        x.drop(3, 1);
        // 3 is told by 28 bits alone, by 24 if it is copied from 2.
        due("of the PAIRS as they are", x.best(), 5 + 15 + 22 + 24 + 33 + without);
        x.form(KIND, 9);
        // With 7 bits for each KIND 0 and 2 are cheapest by DENSE.
        due("by the FORMS as they are now", x.best(), 9 + 19 + 27 + 28 + 35 + 19 * 8);
    }

    @Says("Promise 27: How many parts hang together (by PAIRS either way); of those, how many THINGS the part of a has (a: NONE: how many parts).")
    void parts() {
        NeighbourBook x = of(7, row(3), row(), row(5), row(), row(3), row(5));
        // 0 3 4; 1; 2 5; 6.
        int[] sizes = {3, 1, 2, 3, 3, 2, 1};
        due("parts(NONE)", x.parts(NONE), 4);
        for (int a = 0; a < 7; a++) {
            due("parts(" + a + ")", x.parts(a), sizes[a]);
        }
    }

    @Says("Promise 29: How many: 0 THINGS, 1 PAIRS, 2 PATCHES, 3 bits of THE BOOK, 4 PLACES (0 without), "
        + "5 ROWS that are copied (KINDS 2, 3), 6 the greatest DEPTH. BAD.")
    void count() {
        NeighbourBook x = packed(fourAlike());
        x.pair(0, 3);
        int[] due = {4, 9, 1, 8 + 6 + 6 + 8, 1, 3, 2};
        for (int what = 0; what < 7; what++) {
            due("count(" + what + ")", x.count(what), due[what]);
        }
        due("count(7)", x.count(7), BAD);
    }
}
