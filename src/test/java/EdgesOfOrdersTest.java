/** The sentences on ORDERS, and those of promises 24 to 29, that name a boundary. */
public final class EdgesOfOrdersTest extends Edges {
    public static void main(String[] args) {
        run(new EdgesOfOrdersTest());
    }

    private void dueLine(String what, NeighbourBook x, int order, int... line) {
        for (int i = 0; i < line.length; i++) {
            due(what + ": order(" + order + ", " + i + ")", x.order(order, i), line[i]);
        }
    }

    private void dueAsNumbered(String what, NeighbourBook x, int order, int n) {
        for (int i = 0; i < n; i++) {
            due(what + ": order(" + order + ", " + i + ")", x.order(order, i), i);
        }
    }

    /** 0 to 1, 1 to 2, and so on to n - 1. */
    private static NeighbourBook chain(int n) {
        NeighbourBook x = new NeighbourBook(n);
        for (int a = 0; a + 1 < n; a++) {
            x.pair(a, a + 1);
        }
        return x;
    }

    /** A book with a PATCH and an altered byte. */
    private static NeighbourBook lived() {
        NeighbourBook x = packed(of(4, row(3), row(0, 1), row(1, 3)));
        x.pair(3, 3);
        x.alter(0, 5);
        return x;
    }

    // ---- Terms 5

    @Says("Terms 5: each a row of all THINGS [n = 1]")
    void ordersOfOne() {
        for (int order = 0; order < 3; order++) {
            due("order(" + order + ", 0)", new NeighbourBook(1).order(order, 0), 0);
            due("order(" + order + ", 0), to itself", of(1, row(0)).order(order, 0), 0);
        }
    }

    @Says("Terms 5: each a row of all THINGS [no PAIRS]")
    void ordersWithoutPairs() {
        for (int order = 0; order < 3; order++) {
            dueAsNumbered("without pairs", new NeighbourBook(48), order, 48);
        }
    }

    @Says("Terms 5: each a row of all THINGS [all PAIRS]")
    void ordersOfAllPairs() {
        NeighbourBook x = new NeighbourBook(20);
        for (int a = 0; a < 20; a++) {
            for (int b = 0; b < 20; b++) {
                x.pair(a, b);
            }
        }
        for (int order = 0; order < 3; order++) {
            dueAsNumbered("all pairs", x, order, 20);
        }
    }

    @Says("Terms 5: 0 those with more THINGS in the ROW first, then by numbers.")
    void orderBySize() {
        NeighbourBook x = of(6, row(), row(5), row(0, 1, 2, 3, 4, 5), row(2), row(), row(0, 1));
        dueLine("none, all and some", x, 0, 2, 5, 1, 3, 0, 4);
        NeighbourBook most = new NeighbourBook(48);
        for (int b = 0; b < 48; b++) {
            most.pair(47, b);
        }
        due("all 48 first", most.order(0, 0), 47);
        due("then by numbers", most.order(0, 1), 0);
        due("the last", most.order(0, 47), 46);
    }

    @Says("Terms 5: 1 by LAYERS: 0 first [also without THINGS in its ROW]")
    void layersZeroFirst() {
        NeighbourBook x = of(4, row(), row(3, 2), row(0), row(1));
        dueLine("0 without", x, 1, 0, 1, 2, 3);
        NeighbourBook y = of(4, row(0), row(0));
        dueLine("0 to itself", y, 1, 0, 1, 2, 3);
    }

    @Says("Terms 5: 1 by LAYERS: ... behind each THING, in order, come those of its ROW that are not there")
    void layersInOrder() {
        NeighbourBook x = of(6, row(2, 5), row(), row(1, 5), row(), row(3), row(0, 3, 4));
        dueLine("layers", x, 1, 0, 2, 5, 1, 3, 4);
        NeighbourBook last = of(48, row(47));
        last.pair(47, 46);
        due("the last one behind 0", last.order(1, 1), 47);
        due("then 46", last.order(1, 2), 46);
        due("then the least", last.order(1, 3), 1);
        due("the last place", last.order(1, 47), 45);
    }

    @Says("Terms 5: 1 by LAYERS: ... then the least one that is not there, and so on.")
    void layersThenTheLeast() {
        NeighbourBook x = of(7, row(3), row(6), row(), row(), row(2), row(), row(1));
        dueLine("three times anew", x, 1, 0, 3, 1, 6, 2, 4, 5);
    }

    @Says("Terms 5: 2 by KEYS: of a ROW the least of (b * 40503 modulo 65536) / 64, cut, for its THINGS b")
    void keysOfOneThing() {
        NeighbourBook x = new NeighbourBook(48);
        for (int a = 0; a < 48; a++) {
            x.pair(a, a);
        }
        // By the keys 0, 13, 35, 48, 70, 92 .. 966, 980, 1002.
        int[] line = {
            0, 34, 13, 47, 26, 5, 39, 18, 31, 10, 44, 23, 2, 36, 15, 28, 7, 41, 20, 33, 12, 46, 25, 4,
            38, 17, 30, 9, 43, 22, 1, 35, 14, 27, 6, 40, 19, 32, 11, 45, 24, 3, 37, 16, 29, 8, 42, 21};
        dueLine("each to itself", x, 2, line);
    }

    @Says("Terms 5: 2 by KEYS: ... the least ... for its THINGS b [of several]")
    void keysOfSeveral() {
        // Keys of 0 .. 5: 0, 632, 241, 874, 483, 92.
        NeighbourBook x = of(6, row(1, 3), row(1, 4), row(3, 2), row(3, 5), row(3), row(0, 1, 2, 3, 4, 5));
        dueLine("the least", x, 2, 5, 3, 2, 1, 0, 4);
    }

    @Says("Terms 5: 2 by KEYS: ... 1024 without; then by numbers.")
    void keysWithout() {
        NeighbourBook x = new NeighbourBook(48);
        x.pair(47, 21);
        x.pair(46, 21);
        x.pair(45, 0);
        due("the least key", x.order(2, 0), 45);
        due("the greatest key, 1002, by numbers", x.order(2, 1), 46);
        due("the greatest key, too", x.order(2, 2), 47);
        due("those without, by numbers", x.order(2, 3), 0);
        due("the last", x.order(2, 47), 44);
    }

    // ---- promise 24

    @Says("Promise 24: The THING at place i of an ORDER [the first and the last]")
    void orderFirstAndLast() {
        NeighbourBook x = of(3, row(), row(), row(0));
        int[][] ends = {{2, 1}, {0, 2}, {2, 1}};
        for (int order = 0; order < 3; order++) {
            due("order(" + order + ", 0)", x.order(order, 0), ends[order][0]);
            due("order(" + order + ", 2)", x.order(order, 2), ends[order][1]);
        }
    }

    @Says("Promise 24: NONE. [i below 0, n and more, far outside]")
    void orderNone() {
        for (int order = 0; order < 3; order++) {
            NeighbourBook x = lived();
            for (int i : new int[] {LEAST, -2, -1, 4, 5, 47, 48, MOST}) {
                due("order(" + order + ", " + i + ")", x.order(order, i), NONE);
            }
            due("order(" + order + ", 48) of 48", new NeighbourBook(48).order(order, 48), NONE);
        }
    }

    @Says("Promise 24: BAD: the ORDER.")
    void orderBad() {
        for (int order : new int[] {LEAST, -2, -1, 3, 4, MOST}) {
            refused("order(" + order + ", 0)", EdgesOfOrdersTest::lived, x -> x.order(order, 0), BAD);
            refused("order(" + order + ", 4)", EdgesOfOrdersTest::lived, x -> x.order(order, 4), BAD);
            refused("order(" + order + ", -1)", EdgesOfOrdersTest::lived, x -> x.order(order, -1), BAD);
        }
    }

    @Says("Promise 24: The THING at place i [asking changes nothing]")
    void orderChangesNothing() {
        for (int order = 0; order < 3; order++) {
            NeighbourBook x = lived();
            x.order(order, 0);
            due("as of a twin: 0", answersOf(x).equals(answersOf(lived())) ? 0 : 1, 0);
        }
    }

    // ---- promise 25

    @Says("Promise 25: The THING at place i of an ORDER becomes i, for all i [n = 1, no PAIRS]")
    void renumberOfLittle() {
        for (int order = 0; order < 3; order++) {
            due("renumber(" + order + ") of 1", of(1, row(0)).renumber(order), 0);
            due("renumber(" + order + ") of 48 without", new NeighbourBook(48).renumber(order), 0);
        }
    }

    @Says("Promise 25: The THING at place i of an ORDER becomes i, for all i [48]")
    void renumberAll() {
        NeighbourBook x = new NeighbourBook(48);
        for (int b = 0; b < 48; b++) {
            x.pair(47, b);
        }
        // 47 becomes 0, and each other one 1 more.
        due("renumber(0)", x.renumber(0), 0);
        due("degree(0, 0)", x.degree(0, 0), 48);
        due("degree(47, 0)", x.degree(47, 0), 0);
        due("has(0, 0)", x.has(0, 0), 1);
        due("count(1)", x.count(1), 48);
        NeighbourBook y = new NeighbourBook(48);
        for (int a = 1; a < 48; a++) {
            y.pair(a, a - 1);
        }
        // 0 alone has none, so it goes behind all others: a becomes a - 1, and 0 47.
        due("renumber(0) of a chain", y.renumber(0), 46);
        due("has(46, 45)", y.has(46, 45), 1);
        due("has(0, 47)", y.has(0, 47), 1);
    }

    @Says("Promise 25: how many PAIRS go to a lesser THING then. [not those to itself]")
    void renumberLesser() {
        NeighbourBook x = of(3, row(0, 1, 2), row(0, 1, 2), row(0, 1, 2));
        for (int order = 0; order < 3; order++) {
            due("renumber(" + order + ")", x.renumber(order), 3);
        }
        due("to itself", of(2, row(0), row(1)).renumber(0), 0);
    }

    @Says("Promise 25: THE BOOK and PATCHES are gone.")
    void renumberTakesTheBook() {
        for (int order = 0; order < 3; order++) {
            NeighbourBook x = lived();
            due("count(2) ahead", x.count(2), 1);
            x.renumber(order);
            for (int what = 2; what < 7; what++) {
                due("count(" + what + ") by " + order, x.count(what), 0);
            }
            due("told(0, 0)", x.told(0, 0), STATE);
            due("judge()", x.judge(), STATE);
            due("the PAIRS stay", x.count(1), 6);
            due("a PAIR that comes is no PATCH", x.pair(0, 2) >= 0 ? x.count(2) : 9, 0);
        }
    }

    @Says("Promise 25: THE BOOK and PATCHES are gone. [FORMS, w, r, s stay]")
    void renumberKeepsRules() {
        NeighbourBook x = new NeighbourBook(3);
        x.form(7, 9);
        x.setting(0, 7);
        x.setting(1, 5);
        x.setting(2, 9);
        x.renumber(1);
        due("form(7, 1)", x.form(7, 1), 9);
        due("setting(0, 3)", x.setting(0, 3), 7);
        due("setting(1, 2)", x.setting(1, 2), 5);
        due("setting(2, 4)", x.setting(2, 4), 9);
    }

    @Says("Promise 25: BAD.")
    void renumberBad() {
        for (int order : new int[] {LEAST, -2, -1, 3, 4, MOST}) {
            refused("renumber(" + order + ")", EdgesOfOrdersTest::lived, x -> x.renumber(order), BAD);
            refused("renumber(" + order + ") without a book", () -> chain(4), x -> x.renumber(order), BAD);
        }
    }

    // ---- promise 26

    @Says("Promise 26: How many sets of three THINGS there are [fewer than three THINGS: none]")
    void threesOfFew() {
        due("of 1", of(1, row(0)).threes(), 0);
        due("of 2", of(2, row(0, 1), row(0, 1)).threes(), 0);
        due("of 3 without pairs", new NeighbourBook(3).threes(), 0);
        due("of 3, all pairs", of(3, row(0, 1, 2), row(0, 1, 2), row(0, 1, 2)).threes(), 1);
    }

    @Says("Promise 26: of which each two are joined by a PAIR, either way.")
    void threesEitherWay() {
        int[][] ways = {{0, 1, 1, 2, 2, 0}, {1, 0, 1, 2, 0, 2}, {1, 0, 2, 1, 2, 0}, {0, 1, 0, 2, 1, 2}};
        for (int[] way : ways) {
            NeighbourBook x = new NeighbourBook(4);
            x.pair(way[0], way[1]);
            x.pair(way[2], way[3]);
            x.pair(0, 0);
            x.pair(1, 1);
            x.pair(2, 2);
            due("two of three", x.threes(), 0);
            x.pair(way[4], way[5]);
            due("all three", x.threes(), 1);
            x.pair(way[5], way[4]);
            due("both ways are joined once", x.threes(), 1);
        }
    }

    @Says("Promise 26: How many sets of three THINGS there are [of 31 all joined, the last of 48 among them]")
    void threesOfMany() {
        NeighbourBook x = new NeighbourBook(48);
        for (int a = 17; a < 48; a++) {
            for (int b = a + 1; b < 48; b++) {
                x.pair(b, a);
            }
        }
        due("31 * 30 * 29 / 6", x.threes(), 4495);
        x.drop(47, 46);
        due("without 29 of them", x.threes(), 4495 - 29);
    }

    // ---- promise 27

    @Says("Promise 27: How many parts hang together ... (a: NONE: how many parts) [from one to n]")
    void partsOfAll() {
        due("of 1", new NeighbourBook(1).parts(NONE), 1);
        due("of 48 without pairs", new NeighbourBook(48).parts(NONE), 48);
        due("of 48 in a chain", chain(48).parts(NONE), 1);
        NeighbourBook x = of(48, row(0), row(1));
        due("of 48, to themselves", x.parts(NONE), 48);
        x.pair(47, 0);
        due("the last to the first", x.parts(NONE), 47);
    }

    @Says("Promise 27: (by PAIRS either way)")
    void partsEitherWay() {
        NeighbourBook x = of(6, row(), row(0), row(), row(2), row(0));
        due("parts(NONE)", x.parts(NONE), 3);
        due("parts(0)", x.parts(0), 3);
        due("parts(4)", x.parts(4), 3);
        due("parts(2)", x.parts(2), 2);
        x.pair(3, 1);
        due("joined", x.parts(NONE), 2);
        due("parts(2) then", x.parts(2), 5);
    }

    @Says("Promise 27: how many THINGS the part of a has [one; all]")
    void partsOfOneAndAll() {
        due("alone", new NeighbourBook(48).parts(47), 1);
        due("to itself", of(2, row(0)).parts(0), 1);
        due("the first of a chain", chain(48).parts(0), 48);
        due("the last of a chain", chain(48).parts(47), 48);
        NeighbourBook back = new NeighbourBook(48);
        for (int a = 1; a < 48; a++) {
            back.pair(a, a - 1);
        }
        due("a chain back", back.parts(0), 48);
    }

    @Says("Promise 27: BAD.")
    void partsBad() {
        for (int a : new int[] {LEAST, -48, -3, -2, 4, 5, 48, MOST}) {
            refused("parts(" + a + ")", EdgesOfOrdersTest::lived, x -> x.parts(a), BAD);
        }
        due("parts(NONE) is not", lived().parts(-1), 1);
    }

    // ---- promise 28

    @Says("Promise 28: How many PAIRS, at least, lead from a to b [to itself: none]")
    void farToItself() {
        due("without pairs", new NeighbourBook(48).far(47, 47), 0);
        due("with a PAIR to itself", of(1, row(0)).far(0, 0), 0);
        due("in a ring", of(2, row(1), row(0)).far(0, 0), 0);
    }

    @Says("Promise 28: How many PAIRS, at least, lead from a to b [one; the most]")
    void farFromOneToMost() {
        due("far(0, 1)", chain(48).far(0, 1), 1);
        due("far(0, 47)", chain(48).far(0, 47), 47);
        due("far(0, 46)", chain(48).far(0, 46), 46);
        due("of 2", chain(2).far(0, 1), 1);
        NeighbourBook x = chain(48);
        x.pair(0, 46);
        due("a nearer way", x.far(0, 47), 2);
        x.pair(47, 0);
        due("round", x.far(46, 45), 47);
    }

    @Says("Promise 28: NONE.")
    void farNone() {
        due("the other way", chain(48).far(1, 0), NONE);
        due("without pairs", new NeighbourBook(2).far(0, 1), NONE);
        NeighbourBook x = chain(48);
        x.drop(23, 24);
        due("the chain is cut", x.far(0, 47), NONE);
        due("up to the cut", x.far(0, 23), 23);
    }

    @Says("Promise 28: BAD.")
    void farBad() {
        for (int a : new int[] {LEAST, -2, -1, 4, 48, 64, MOST}) {
            refused("far(" + a + ", 0)", EdgesOfOrdersTest::lived, x -> x.far(a, 0), BAD);
            refused("far(0, " + a + ")", EdgesOfOrdersTest::lived, x -> x.far(0, a), BAD);
            refused("far(" + a + ", " + a + ")", EdgesOfOrdersTest::lived, x -> x.far(a, a), BAD);
        }
    }

    // ---- promise 29

    private void dueCounts(String what, NeighbourBook x, int... counts) {
        for (int i = 0; i < counts.length; i++) {
            due(what + ": count(" + i + ")", x.count(i), counts[i]);
        }
    }

    @Says("Promise 29: 0 THINGS, 1 PAIRS, 2 PATCHES, 3 bits of THE BOOK, 4 PLACES (0 without), 5 ROWS that are copied (KINDS 2, 3), 6 the greatest DEPTH. [no BOOK]")
    void countWithoutBook() {
        dueCounts("no pairs", new NeighbourBook(48), 48, 0, 0, 0, 0, 0, 0);
        dueCounts("pairs", fourAlike(), 4, 8, 0, 0, 0, 0, 0);
        NeighbourBook x = packed(fourAlike());
        x.renumber(0);
        dueCounts("a book that is gone", x, 4, 8, 0, 0, 0, 0, 0);
    }

    @Says("Promise 29: 3 bits of THE BOOK, 4 PLACES [a BOOK of n = 1, of 48]")
    void countOfLeastAndMost() {
        dueCounts("n = 1", packed(new NeighbourBook(1)), 1, 0, 0, 2, 1, 0, 0);
        dueCounts("n = 48", packed(new NeighbourBook(48)), 48, 0, 0, 96, 12, 0, 0);
    }

    @Says("Promise 29: 5 ROWS that are copied (KINDS 2, 3), 6 the greatest DEPTH [both KINDS; not that of the last ROW]")
    void countCopied() {
        int[] five = {0, 5, 10, 15, 20};
        int[] six = {0, 5, 10, 15, 20, 21};
        NeighbourBook x = of(24, five, five, six, row());
        x.pack();
        due("SAME", x.told(1, 0), 3);
        due("COPIED", x.told(2, 0), 2);
        due("neither", x.told(3, 0), 0);
        due("count(5)", x.count(5), 2);
        due("count(6)", x.count(6), Math.max(x.told(1, 2), x.told(2, 2)));
        due("which is", x.count(6), 2);
    }

    @Says("Promise 29: 1 PAIRS, 2 PATCHES, 3 bits of THE BOOK [those as it is now, these as it is packed]")
    void countWithPatches() {
        NeighbourBook x = packed(fourAlike());
        x.drop(3, 0);
        x.drop(3, 2);
        x.drop(2, 2);
        x.pair(2, 3);
        dueCounts("four PATCHES", x, 4, 6, 4, 28, 1, 3, 2);
    }

    @Says("Promise 29: BAD.")
    void countBad() {
        for (int what : new int[] {LEAST, -2, -1, 7, 8, MOST}) {
            refused("count(" + what + ")", EdgesOfOrdersTest::lived, x -> x.count(what), BAD);
            refused("count(" + what + ") without a book", () -> chain(4), x -> x.count(what), BAD);
        }
    }
}
