/** The sentences on THINGS and PAIRS, and those of promises 1 to 8, that name a boundary. */
public final class EdgesOfPairsTest extends Edges {
    private static final int[] SIZES = {1, 2, 47, 48};

    public static void main(String[] args) {
        run(new EdgesOfPairsTest());
    }

    /** 48 things, a book of no pairs, and then pairs from 0 to the first so many: each a PATCH. */
    private static NeighbourBook patchesThatCame(int many) {
        NeighbourBook x = packed(new NeighbourBook(48));
        for (int b = 0; b < many; b++) {
            x.pair(0, b);
        }
        return x;
    }

    /** 48 things, a book of all pairs from 0, and the first so many gone: each a PATCH. */
    private static NeighbourBook patchesThatWent(int many) {
        NeighbourBook x = packed(of(48, span(0, 47)));
        for (int b = 0; b < many; b++) {
            x.drop(0, b);
        }
        return x;
    }

    // ---- Terms 1

    @Says("Terms 1: THINGS are 0 .. n - 1, n 1 to 48. [the first and the last]")
    void firstAndLastThing() {
        for (int n : SIZES) {
            NeighbourBook x = new NeighbourBook(n);
            due("pair(n - 1, 0) of " + n, x.pair(n - 1, 0), 1);
            due("has(n - 1, 0) of " + n, x.has(n - 1, 0), 1);
            due("drop(n - 1, 0) of " + n, x.drop(n - 1, 0), 1);
            due("pair(0, n - 1) of " + n, x.pair(0, n - 1), 1);
            due("next(0, n - 1) of " + n, x.next(0, n - 1), n - 1);
            due("back(n - 1, 0) of " + n, x.back(n - 1, 0), 0);
            due("degree(n - 1, 1) of " + n, x.degree(n - 1, 1), 1);
            due("meet(0, n - 1) of " + n, x.meet(0, n - 1), n == 1 ? 1 : 0);
            due("cost(n - 1, 0, 0) of " + n, x.cost(n - 1, 0, 0), n == 1 ? 5 : 2);
            due("far(0, n - 1) of " + n, x.far(0, n - 1), n == 1 ? 0 : 1);
            due("parts(n - 1) of " + n, x.parts(n - 1), n == 1 ? 1 : 2);
            x.pack();
            due("told(n - 1, 0) of " + n, x.told(n - 1, 0), 0);
            due("looked(0) of " + n, x.looked(0), x.told(0, 4));
        }
    }

    @Says("Terms 1: THINGS are 0 .. n - 1, n 1 to 48. [none below 0, none of n and more]")
    void noThingOutside() {
        for (int n : SIZES) {
            NeighbourBook x = packed(new NeighbourBook(n));
            for (int a : new int[] {LEAST, -2, -1, n, n + 1, 49, 64, MOST}) {
                if (a < 0 || a >= n) {
                    noThing(x, a, " of " + n);
                }
            }
        }
    }

    private void noThing(NeighbourBook x, int a, String of) {
        due("pair(" + a + ", 0)" + of, x.pair(a, 0), BAD);
        due("pair(0, " + a + ")" + of, x.pair(0, a), BAD);
        due("drop(" + a + ", 0)" + of, x.drop(a, 0), BAD);
        due("drop(0, " + a + ")" + of, x.drop(0, a), BAD);
        due("has(" + a + ", 0)" + of, x.has(a, 0), BAD);
        due("has(0, " + a + ")" + of, x.has(0, a), BAD);
        due("next(" + a + ", 0)" + of, x.next(a, 0), BAD);
        due("degree(" + a + ", 0)" + of, x.degree(a, 0), BAD);
        due("degree(" + a + ", 1)" + of, x.degree(a, 1), BAD);
        due("meet(" + a + ", 0)" + of, x.meet(a, 0), BAD);
        due("meet(0, " + a + ")" + of, x.meet(0, a), BAD);
        due("back(" + a + ", 0)" + of, x.back(a, 0), BAD);
        due("cost(" + a + ", 0, 0)" + of, x.cost(a, 0, 0), BAD);
        due("told(" + a + ", 0)" + of, x.told(a, 0), BAD);
        due("looked(" + a + ")" + of, x.looked(a), BAD);
        due("far(" + a + ", 0)" + of, x.far(a, 0), BAD);
        due("far(0, " + a + ")" + of, x.far(0, a), BAD);
        if (a != NONE) {
            due("parts(" + a + ")" + of, x.parts(a), BAD);
        }
    }

    @Says("Terms 1: PAIRS go from one to another, or to itself.")
    void oneWayOrToItself() {
        NeighbourBook x = new NeighbourBook(2);
        due("pair(0, 1)", x.pair(0, 1), 1);
        due("has(1, 0): not the other way", x.has(1, 0), 0);
        due("pair(1, 1)", x.pair(1, 1), 1);
        due("has(1, 1)", x.has(1, 1), 1);
        due("has(0, 0)", x.has(0, 0), 0);
        due("drop(1, 0): not the other way", x.drop(1, 0), 0);
        due("count(1)", x.count(1), 2);
    }

    @Says("Terms 1: The ROW of a THING: those to which PAIRS go from it, rising.")
    void rowsRise() {
        NeighbourBook x = new NeighbourBook(48);
        int[] come = {47, 3, 0, 20};
        for (int b : come) {
            x.pair(9, b);
        }
        int[] rising = {0, 3, 20, 47};
        int at = 0;
        for (int b : rising) {
            due("next(9, " + at + ")", x.next(9, at), b);
            at = b + 1;
        }
        due("next(9, 48)", x.next(9, at), NONE);
        // COUNT 4, FIRST 0 - 9, GAPS 2, 16, 26.
        due("told in that order", x.cost(9, 0, 0), 1 + 5 + 9 + 3 + 9 + 9);
    }

    @Says("Terms 1: The ROW of a THING [without THINGS]")
    void rowWithoutThings() {
        NeighbourBook x = new NeighbourBook(48);
        for (int a : new int[] {0, 47}) {
            due("next(" + a + ", 0)", x.next(a, 0), NONE);
            due("degree(" + a + ", 0)", x.degree(a, 0), 0);
            due("degree(" + a + ", 1)", x.degree(a, 1), 0);
            due("back(" + a + ", 0)", x.back(a, 0), NONE);
            due("meet(" + a + ", 0)", x.meet(a, 0), 0);
            due("drop(" + a + ", 0)", x.drop(a, 0), 0);
        }
    }

    @Says("Terms 1: The ROW of a THING [with all n THINGS]")
    void rowOfAllThings() {
        for (int n : SIZES) {
            NeighbourBook x = of(n, span(0, n - 1));
            due("degree(0, 0) of " + n, x.degree(0, 0), n);
            due("count(1) of " + n, x.count(1), n);
            due("meet(0, 0) of " + n, x.meet(0, 0), n);
            for (int b = 0; b < n; b++) {
                due("next(0, " + b + ") of " + n, x.next(0, b), b);
                due("pair(0, " + b + ") of " + n, x.pair(0, b), 0);
                due("has(0, " + b + ") of " + n, x.has(0, b), 1);
            }
            due("next(0, n) of " + n, x.next(0, n), NONE);
        }
    }

    // ---- promise 1

    @Says("Promise 1: So many THINGS, 1 at least, 48 at most")
    void newWithinLimits() {
        for (int n = 1; n <= 48; n++) {
            due("count(0) of " + n, new NeighbourBook(n).count(0), n);
        }
    }

    @Says("Promise 1: (n below that, above that: 1, 48) [below]")
    void newBelow() {
        for (int n : new int[] {LEAST, LEAST + 1, -48, -1, 0}) {
            NeighbourBook x = new NeighbourBook(n);
            due("count(0) of " + n, x.count(0), 1);
            due("pair(0, 0) of " + n, x.pair(0, 0), 1);
            due("pair(1, 0) of " + n, x.pair(1, 0), BAD);
            due("pack() of " + n, x.pack(), 5);
        }
    }

    @Says("Promise 1: (n below that, above that: 1, 48) [above]")
    void newAbove() {
        for (int n : new int[] {49, 64, 1000, MOST - 1, MOST}) {
            NeighbourBook x = new NeighbourBook(n);
            due("count(0) of " + n, x.count(0), 48);
            due("pair(47, 47) of " + n, x.pair(47, 47), 1);
            due("pair(48, 47) of " + n, x.pair(48, 47), BAD);
            due("pack() of " + n, x.pack(), 47 * 2 + 5);
        }
    }

    @Says("Promise 1: no PAIRS")
    void newWithoutPairs() {
        for (int n : SIZES) {
            NeighbourBook x = new NeighbourBook(n);
            due("count(1) of " + n, x.count(1), 0);
            for (int a = 0; a < n; a++) {
                due("next(" + a + ", 0) of " + n, x.next(a, 0), NONE);
                due("degree(" + a + ", 1) of " + n, x.degree(a, 1), 0);
            }
        }
    }

    @Says("Promise 1: no BOOK")
    void newWithoutBook() {
        NeighbourBook x = new NeighbourBook(3);
        due("told(0, 0)", x.told(0, 0), STATE);
        due("looked(0)", x.looked(0), STATE);
        due("would(0, 0)", x.would(0, 0), STATE);
        due("forms()", x.forms(), STATE);
        due("bit(0)", x.bit(0), NONE);
        due("place(0)", x.place(0), NONE);
        due("sum()", x.sum(), STATE);
        due("alter(0, 1)", x.alter(0, 1), STATE);
        due("judge()", x.judge(), STATE);
        for (int what = 2; what < 7; what++) {
            due("count(" + what + ")", x.count(what), 0);
        }
    }

    // ---- promise 2

    @Says("Promise 2: A PAIR from a to b comes: 1")
    void pairComes() {
        NeighbourBook x = new NeighbourBook(48);
        due("pair(0, 0)", x.pair(0, 0), 1);
        due("pair(0, 47)", x.pair(0, 47), 1);
        due("pair(47, 0)", x.pair(47, 0), 1);
        due("pair(47, 47)", x.pair(47, 47), 1);
        due("count(1)", x.count(1), 4);
        due("has(47, 0)", x.has(47, 0), 1);
    }

    @Says("Promise 2: it is there: 0")
    void pairIsThere() {
        NeighbourBook x = of(3, row(1));
        due("pair(0, 1)", x.pair(0, 1), 0);
        due("count(1)", x.count(1), 1);
        x.pack();
        due("pair(0, 1) with a book", x.pair(0, 1), 0);
        due("it is no PATCH", x.count(2), 0);
        x.pair(0, 2);
        due("pair(0, 2), a PATCH already", x.pair(0, 2), 0);
        due("count(2)", x.count(2), 1);
    }

    @Says("Promise 2: BAD")
    void pairBad() {
        for (int a : new int[] {LEAST, -1, 3, 48, MOST}) {
            refused("pair(" + a + ", 0)", () -> of(3, row(1)), x -> x.pair(a, 0), BAD);
            refused("pair(0, " + a + ")", () -> of(3, row(1)), x -> x.pair(0, a), BAD);
            refused("pair(" + a + ", " + a + ")", () -> of(3, row(1)), x -> x.pair(a, a), BAD);
        }
    }

    @Says("Promise 2: FULL: 40 PATCHES, and it would be one more.")
    void pairFull() {
        NeighbourBook x = patchesThatCame(39);
        due("count(2)", x.count(2), 39);
        due("the 40th", x.pair(0, 39), 1);
        due("count(2)", x.count(2), 40);
        due("the 41st", x.pair(0, 40), FULL);
        due("the 41st from another", x.pair(47, 47), FULL);
        due("count(2)", x.count(2), 40);
        NeighbourBook y = patchesThatWent(40);
        due("the 41st, and those ahead went", y.pair(1, 0), FULL);
    }

    @Says("Promise 2: FULL: 40 PATCHES [and not without a BOOK]")
    void pairNotFullWithoutBook() {
        NeighbourBook x = new NeighbourBook(48);
        for (int b = 0; b < 48; b++) {
            due("pair(0, " + b + ")", x.pair(0, b), 1);
            due("pair(1, " + b + ")", x.pair(1, b), 1);
        }
        due("count(2)", x.count(2), 0);
    }

    @Says("Promise 2: FULL: ... it would be one more [one that is there would not: 0]")
    void pairThereWhileFull() {
        NeighbourBook x = patchesThatCame(40);
        due("pair(0, 39), a PATCH", x.pair(0, 39), 0);
        NeighbourBook y = patchesThatWent(40);
        due("pair(0, 47), as it is packed", y.pair(0, 47), 0);
        due("count(2)", y.count(2), 40);
    }

    @Says("Promise 2: FULL: ... it would be one more [one that went and comes again would not: 1]")
    void pairComesAgainWhileFull() {
        NeighbourBook x = patchesThatWent(40);
        due("pair(0, 39)", x.pair(0, 39), 1);
        due("has(0, 39)", x.has(0, 39), 1);
        due("count(2)", x.count(2), 39);
        due("room for one more", x.pair(1, 0), 1);
        due("count(2)", x.count(2), 40);
        due("and no more", x.pair(1, 1), FULL);
    }

    @Says("Promise 2: FULL [no more with a new BOOK, or without any]")
    void pairNotFullAnew() {
        NeighbourBook x = patchesThatCame(40);
        x.pack();
        due("packed anew", x.pair(0, 40), 1);
        due("count(2)", x.count(2), 1);
        NeighbourBook y = patchesThatCame(40);
        y.renumber(0);
        due("renumbered", y.pair(0, 40), 1);
        due("count(2)", y.count(2), 0);
    }

    @Says("Promise 2: FULL [changes nothing]")
    void pairFullChangesNothing() {
        refused("pair(0, 40)", () -> patchesThatCame(40), x -> x.pair(0, 40), FULL);
        refused("pair(1, 0)", () -> patchesThatWent(40), x -> x.pair(1, 0), FULL);
    }

    @Says("Promise 2: BAD; FULL [BAD ahead]")
    void pairBadAheadOfFull() {
        NeighbourBook x = patchesThatCame(40);
        due("pair(48, 40)", x.pair(48, 40), BAD);
        due("pair(0, 48)", x.pair(0, 48), BAD);
        due("pair(-1, 40)", x.pair(-1, 40), BAD);
    }

    // ---- promise 3

    @Says("Promise 3: The PAIR from a to b goes: 1")
    void dropGoes() {
        NeighbourBook x = of(48, span(0, 47));
        due("drop(0, 0)", x.drop(0, 0), 1);
        due("drop(0, 47)", x.drop(0, 47), 1);
        due("has(0, 0)", x.has(0, 0), 0);
        due("has(0, 47)", x.has(0, 47), 0);
        due("count(1)", x.count(1), 46);
    }

    @Says("Promise 3: it is not there: 0")
    void dropIsNotThere() {
        NeighbourBook x = of(3, row(1));
        due("drop(0, 0)", x.drop(0, 0), 0);
        due("drop(1, 0)", x.drop(1, 0), 0);
        x.pack();
        due("drop(0, 0) with a book", x.drop(0, 0), 0);
        due("it is no PATCH", x.count(2), 0);
        x.drop(0, 1);
        due("drop(0, 1), gone already", x.drop(0, 1), 0);
        due("count(2)", x.count(2), 1);
    }

    @Says("Promise 3: BAD")
    void dropBad() {
        for (int a : new int[] {LEAST, -1, 3, 48, MOST}) {
            refused("drop(" + a + ", 1)", () -> of(3, row(0, 1)), x -> x.drop(a, 1), BAD);
            refused("drop(0, " + a + ")", () -> of(3, row(0, 1)), x -> x.drop(0, a), BAD);
            refused("drop(" + a + ", " + a + ")", () -> of(3, row(0, 1)), x -> x.drop(a, a), BAD);
        }
    }

    @Says("Promise 3: FULL likewise. [40 PATCHES, and it would be one more]")
    void dropFull() {
        NeighbourBook x = patchesThatWent(39);
        due("count(2)", x.count(2), 39);
        due("the 40th", x.drop(0, 39), 1);
        due("count(2)", x.count(2), 40);
        due("the 41st", x.drop(0, 40), FULL);
        due("has(0, 40)", x.has(0, 40), 1);
        due("count(2)", x.count(2), 40);
    }

    @Says("Promise 3: FULL likewise. [not without a BOOK]")
    void dropNotFullWithoutBook() {
        NeighbourBook x = of(48, span(0, 47));
        for (int b = 0; b < 48; b++) {
            due("drop(0, " + b + ")", x.drop(0, b), 1);
        }
        due("count(1)", x.count(1), 0);
    }

    @Says("Promise 3: FULL likewise. [one that is not there: 0]")
    void dropNotThereWhileFull() {
        NeighbourBook x = patchesThatWent(40);
        due("drop(0, 39), a PATCH", x.drop(0, 39), 0);
        due("drop(1, 1), as it is packed", x.drop(1, 1), 0);
        due("count(2)", x.count(2), 40);
    }

    @Says("Promise 3: FULL likewise. [one that came and goes again: 1]")
    void dropGoesAgainWhileFull() {
        NeighbourBook x = patchesThatCame(40);
        due("drop(0, 39)", x.drop(0, 39), 1);
        due("has(0, 39)", x.has(0, 39), 0);
        due("count(2)", x.count(2), 39);
        due("room for one more", x.pair(47, 0), 1);
        due("and no more", x.pair(47, 1), FULL);
        due("that one goes again", x.drop(47, 0), 1);
        due("count(2)", x.count(2), 39);
    }

    @Says("Promise 3: FULL likewise. [those that come and those that go are counted together]")
    void patchesOfBothKinds() {
        NeighbourBook x = packed(of(48, span(0, 20)));
        for (int b = 0; b < 20; b++) {
            due("drop(0, " + b + ")", x.drop(0, b), 1);
            due("pair(1, " + b + ")", x.pair(1, b), 1);
        }
        due("count(2)", x.count(2), 40);
        due("drop(0, 20)", x.drop(0, 20), FULL);
        due("pair(1, 20)", x.pair(1, 20), FULL);
        due("one comes again", x.pair(0, 0), 1);
        due("drop(0, 20) then", x.drop(0, 20), 1);
        due("one goes again", x.drop(1, 19), 1);
        due("pair(1, 20) then", x.pair(1, 20), 1);
        due("count(2)", x.count(2), 40);
    }

    @Says("Promise 3: FULL likewise. [changes nothing]")
    void dropFullChangesNothing() {
        refused("drop(0, 40)", () -> patchesThatWent(40), x -> x.drop(0, 40), FULL);
    }

    @Says("Promise 3: BAD; FULL likewise. [BAD ahead]")
    void dropBadAheadOfFull() {
        NeighbourBook x = patchesThatWent(40);
        due("drop(48, 40)", x.drop(48, 40), BAD);
        due("drop(0, 48)", x.drop(0, 48), BAD);
        due("drop(0, -1)", x.drop(0, -1), BAD);
    }

    // ---- Terms 4, PATCHES

    @Says("Terms 4: PAIRS that come or go while there is a BOOK are PATCHES")
    void patchesWithABook() {
        NeighbourBook x = of(3, row(0));
        due("count(2) without a book", x.count(2), 0);
        x.pack();
        due("count(2)", x.count(2), 0);
        x.pair(2, 2);
        due("one that comes", x.count(2), 1);
        x.drop(0, 0);
        due("one that goes", x.count(2), 2);
        due("has(0, 0)", x.has(0, 0), 0);
        due("has(2, 2)", x.has(2, 2), 1);
        due("the book is as it was", x.count(3), 5 + 2 + 2);
    }

    @Says("Terms 4: (one that goes again, or comes again, is none any more)")
    void patchNoMore() {
        NeighbourBook x = packed(of(3, row(0)));
        for (int i = 0; i < 3; i++) {
            x.pair(2, 2);
            x.drop(0, 0);
            due("count(2)", x.count(2), 2);
            x.drop(2, 2);
            due("one goes again", x.count(2), 1);
            x.pair(0, 0);
            due("one comes again", x.count(2), 0);
        }
        due("forms() is not refused then", x.forms() > 0 ? 1 : 0, 1);
    }

    // ---- promise 4

    @Says("Promise 4: Whether there is a PAIR from a to b: 1, 0.")
    void hasOrNot() {
        NeighbourBook x = of(48, row(0, 47));
        due("has(0, 0)", x.has(0, 0), 1);
        due("has(0, 47)", x.has(0, 47), 1);
        due("has(0, 46)", x.has(0, 46), 0);
        due("has(47, 0)", x.has(47, 0), 0);
        x.pack();
        x.drop(0, 47);
        x.pair(47, 0);
        due("has(0, 47), gone since", x.has(0, 47), 0);
        due("has(47, 0), come since", x.has(47, 0), 1);
    }

    @Says("Promise 4: BAD.")
    void hasBad() {
        for (int a : new int[] {LEAST, -1, 3, 48, 64, MOST}) {
            refused("has(" + a + ", 0)", () -> of(3, span(0, 2)), x -> x.has(a, 0), BAD);
            refused("has(0, " + a + ")", () -> of(3, span(0, 2)), x -> x.has(0, a), BAD);
        }
    }

    // ---- promise 5

    @Says("Promise 5: The first THING of a's ROW that is b (0 or more) or more")
    void nextFromB() {
        NeighbourBook x = of(48, row(0, 5, 47), row(47));
        due("next(0, 0)", x.next(0, 0), 0);
        due("next(0, 1)", x.next(0, 1), 5);
        due("next(0, 5): b itself", x.next(0, 5), 5);
        due("next(0, 6)", x.next(0, 6), 47);
        due("next(0, 47)", x.next(0, 47), 47);
        due("next(1, 0)", x.next(1, 0), 47);
    }

    @Says("Promise 5: NONE. [b behind the last one, no THING at all, b of n and more]")
    void nextNone() {
        NeighbourBook x = of(48, row(0, 5, 46));
        due("next(0, 47)", x.next(0, 47), NONE);
        due("next(1, 0)", x.next(1, 0), NONE);
        for (int b : new int[] {48, 49, 63, 64, 65, 128, MOST - 1, MOST}) {
            due("next(0, " + b + ")", x.next(0, b), NONE);
        }
        NeighbourBook y = of(3, span(0, 2));
        due("next(0, n)", y.next(0, 3), NONE);
    }

    @Says("Promise 5: b (0 or more) ... BAD.")
    void nextBad() {
        for (int b : new int[] {LEAST, -48, -1}) {
            refused("next(0, " + b + ")", () -> of(3, span(0, 2)), x -> x.next(0, b), BAD);
        }
        for (int a : new int[] {LEAST, -1, 3, 48, MOST}) {
            refused("next(" + a + ", 0)", () -> of(3, span(0, 2)), x -> x.next(a, 0), BAD);
            refused("next(" + a + ", -1)", () -> of(3, span(0, 2)), x -> x.next(a, -1), BAD);
            refused("next(" + a + ", MOST)", () -> of(3, span(0, 2)), x -> x.next(a, MOST), BAD);
        }
    }

    // ---- promise 6

    @Says("Promise 6: How many THINGS a's ROW has (way = 0), how many THINGS have a in theirs (1).")
    void degreeOfEitherWay() {
        NeighbourBook x = of(48, span(0, 47), row(1));
        for (int a = 2; a < 48; a++) {
            x.pair(a, 1);
        }
        due("degree(0, 0): all", x.degree(0, 0), 48);
        due("degree(1, 1): all", x.degree(1, 1), 48);
        due("degree(1, 0): itself", x.degree(1, 0), 1);
        due("degree(0, 1): itself", x.degree(0, 1), 1);
        due("degree(47, 0)", x.degree(47, 0), 1);
        x.drop(0, 0);
        due("degree(0, 1): none", x.degree(0, 1), 0);
        due("degree(0, 0)", x.degree(0, 0), 47);
    }

    @Says("Promise 6: (way = 0) ... (1). BAD.")
    void degreeBad() {
        for (int way : new int[] {LEAST, -1, 2, MOST}) {
            refused("degree(0, " + way + ")", () -> of(3, span(0, 2)), x -> x.degree(0, way), BAD);
        }
        for (int a : new int[] {LEAST, -1, 3, 48, MOST}) {
            refused("degree(" + a + ", 0)", () -> of(3, span(0, 2)), x -> x.degree(a, 0), BAD);
            refused("degree(" + a + ", 1)", () -> of(3, span(0, 2)), x -> x.degree(a, 1), BAD);
        }
    }

    // ---- promise 7

    @Says("Promise 7: How many THINGS are in both ROWS.")
    void meetNoneToAll() {
        NeighbourBook x = of(48, span(0, 47), span(0, 47), row(47), row(46));
        due("meet(0, 1): all", x.meet(0, 1), 48);
        due("meet(1, 1): one and the same", x.meet(1, 1), 48);
        due("meet(0, 2)", x.meet(0, 2), 1);
        due("meet(2, 3): none", x.meet(2, 3), 0);
        due("meet(0, 4): without things", x.meet(0, 4), 0);
        due("meet(4, 5): both without", x.meet(4, 5), 0);
    }

    @Says("Promise 7: BAD.")
    void meetBad() {
        for (int a : new int[] {LEAST, -1, 3, 48, MOST}) {
            refused("meet(" + a + ", 0)", () -> of(3, span(0, 2)), x -> x.meet(a, 0), BAD);
            refused("meet(0, " + a + ")", () -> of(3, span(0, 2)), x -> x.meet(0, a), BAD);
        }
    }

    // ---- promise 8

    @Says("Promise 8: The k-th THING (0 the first, by numbers) that has a in its ROW")
    void backFromFirstToLast() {
        NeighbourBook x = new NeighbourBook(48);
        for (int a = 47; a >= 0; a--) {
            x.pair(a, 7);
        }
        for (int k = 0; k < 48; k++) {
            due("back(7, " + k + ") of all", x.back(7, k), k);
        }
        NeighbourBook y = of(3, row(), row(), row(2));
        due("back(2, 0): itself", y.back(2, 0), 2);
    }

    @Says("Promise 8: NONE. [k beyond the last one, or below 0]")
    void backNone() {
        NeighbourBook x = of(3, row(1), row(1), row(1));
        due("back(1, 2)", x.back(1, 2), 2);
        due("back(1, 3)", x.back(1, 3), NONE);
        for (int k : new int[] {LEAST, -2, -1, 4, 48, MOST}) {
            due("back(1, " + k + ")", x.back(1, k), NONE);
        }
        due("back(0, 0): none has it", x.back(0, 0), NONE);
    }

    @Says("Promise 8: BAD: a.")
    void backBad() {
        for (int a : new int[] {LEAST, -1, 3, 48, MOST}) {
            refused("back(" + a + ", 0)", () -> of(3, span(0, 2)), x -> x.back(a, 0), BAD);
            refused("back(" + a + ", -1)", () -> of(3, span(0, 2)), x -> x.back(a, -1), BAD);
            refused("back(" + a + ", 9)", () -> of(3, span(0, 2)), x -> x.back(a, 9), BAD);
        }
    }
}
