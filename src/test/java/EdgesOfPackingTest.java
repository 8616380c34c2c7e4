/** The sentences on THE BOOK, PLACES and STEP, and those of promises 13 to 18, that name a boundary. */
public final class EdgesOfPackingTest extends Edges {
    private static final int PLAIN = 0, SPANS = 1, COPIED = 2, SAME = 3, DENSE = 4;

    public static void main(String[] args) {
        run(new EdgesOfPackingTest());
    }

    /** fourAlike packed by s = 2, w = 1, r = 5: 8 bits and three times 6. */
    private static NeighbourBook chainOfFour() {
        NeighbourBook x = fourAlike();
        x.setting(0, 1);
        x.setting(1, 5);
        x.setting(2, 2);
        return packed(x);
    }

    private static NeighbourBook withForms(NeighbourBook x, int... usesAndForms) {
        for (int i = 0; i + 1 < usesAndForms.length; i += 2) {
            x.form(usesAndForms[i], usesAndForms[i + 1]);
        }
        return x;
    }

    private void dueCosts(NeighbourBook x, int a, int... costs) {
        for (int kind = 0; kind < costs.length; kind++) {
            due("cost(" + a + ", " + kind + ", 1)", x.cost(a, kind, 1), costs[kind]);
        }
    }

    // ---- Terms 4: the cheapest of several

    @Says("Terms 4: the TELLING with fewest bits (its KIND with them)")
    void kindIsCountedWithThem() {
        NeighbourBook x = of(3, row(0, 1, 2));
        dueCosts(x, 0, 9, 9);
        x.pack();
        due("PLAIN, as the KIND has bits too", x.told(0, 0), PLAIN);
        x.form(KIND, 9);
        x.pack();
        // Without its KIND DENSE has 5, SPANS 6, PLAIN 8.
        due("DENSE, if all KINDS have as many", x.told(0, 0), DENSE);
    }

    @Says("Terms 4: of several that of the lesser KIND [PLAIN and SPANS]")
    void plainAheadOfSpans() {
        NeighbourBook x = withForms(of(3, row(0, 1, 2)), KIND, 0, LENGTH, 4);
        dueCosts(x, 0, 9, 9, BAD, BAD, 10);
        due("pack()", x.pack(), 9 + 2 + 2);
        due("told(0, 0)", x.told(0, 0), PLAIN);
    }

    @Says("Terms 4: of several that of the lesser KIND [PLAIN and SAME]")
    void plainAheadOfSame() {
        NeighbourBook x = withForms(new NeighbourBook(2), KIND, 9);
        dueCosts(x, 1, 8, 9, 7 + 1 + 1 + 1 + 1, 8, STATE);
        x.pack();
        due("told(1, 0)", x.told(1, 0), PLAIN);
        due("told(1, 1)", x.told(1, 1), 0);
    }

    @Says("Terms 4: of several that of the lesser KIND [PLAIN and DENSE]")
    void plainAheadOfDense() {
        NeighbourBook x = withForms(of(1, row(0)), KIND, 4);
        dueCosts(x, 0, 6, 7, BAD, BAD, 6);
        x.pack();
        due("told(0, 0)", x.told(0, 0), PLAIN);
    }

    @Says("Terms 4: of several that of the lesser KIND [SPANS and DENSE]")
    void spansAheadOfDense() {
        NeighbourBook x = withForms(of(3, row(0, 1, 2)), KIND, 0, LENGTH, 5, GAP, 4);
        dueCosts(x, 0, 11, 10, BAD, BAD, 10);
        x.pack();
        due("told(0, 0)", x.told(0, 0), SPANS);
    }

    @Says("Terms 4: of several that of the lesser KIND [SPANS and COPIED]")
    void spansAheadOfCopied() {
        NeighbourBook x = withForms(of(6, row(1, 2, 3, 5), row(1, 2, 3)), KIND, 4, FIRST, 9, LENGTH, 7, BLOCK, 5);
        dueCosts(x, 1, 16, 12, 12, STATE, 15);
        x.pack();
        due("told(1, 0)", x.told(1, 0), SPANS);
    }

    @Says("Terms 4: of several that of the lesser KIND [COPIED and DENSE]")
    void copiedAheadOfDense() {
        NeighbourBook x = withForms(of(6, row(1, 2, 3, 5), row(1, 2, 3)), KIND, 4, FIRST, 6, LENGTH, 9, BLOCK, 5, GAP, 4);
        dueCosts(x, 1, 15, 14, 12, STATE, 12);
        x.pack();
        due("told(1, 0)", x.told(1, 0), COPIED);
        due("told(1, 1)", x.told(1, 1), 1);
    }

    @Says("Terms 4: of several that of the lesser KIND [SAME and DENSE]")
    void sameAheadOfDense() {
        NeighbourBook x = withForms(of(2, row(1), row(1)), KIND, 9, BACK, 4);
        dueCosts(x, 1, 11, 12, 12, 9, 9);
        x.pack();
        due("told(1, 0)", x.told(1, 0), SAME);
    }

    @Says("Terms 4: then the lesser k.")
    void lesserK() {
        NeighbourBook x = withForms(fourAlike(), BACK, 9);
        x.setting(1, 5);
        due("k 1", x.cost(3, SAME, 1), 12);
        due("k 2", x.cost(3, SAME, 2), 12);
        x.pack();
        due("told(3, 0), as PLAIN has as many", x.told(3, 0), PLAIN);
        x.form(COUNT, 9);
        x.pack();
        due("SAME is cheaper", x.told(3, 0), SAME);
        due("told(3, 1)", x.told(3, 1), 1);
        NeighbourBook y = withForms(of(24, row(0, 5, 10, 15, 20), row(0, 5, 10, 15, 20), row(0, 5, 10, 15, 20, 21)), BACK, 9);
        due("COPIED, k 1", y.cost(2, COPIED, 1), y.cost(2, COPIED, 2));
        y.pack();
        due("COPIED", y.told(2, 0), COPIED);
        due("told(2, 1)", y.told(2, 1), 1);
    }

    // ---- Terms 4: bits and PLACES

    @Says("Terms 4: Its bits stand one behind the other.")
    void bitsStandBehindOneAnother() {
        NeighbourBook x = packed(of(48, span(0, 47), row(), row(5), span(0, 47), row(0, 2, 4, 6, 8, 10, 12, 14)));
        int at = 0;
        for (int a = 0; a < 48; a++) {
            due("told(" + a + ", 3)", x.told(a, 3), at);
            at += x.told(a, 4);
        }
        due("count(3)", x.count(3), at);
    }

    @Says("Terms 4: PLACES tell where the bits begin of each s-th THING (0, s, 2 s ..; STEP s 1 to 9")
    void placesOfEachStep() {
        for (int s = 1; s <= 9; s++) {
            for (int n : new int[] {1, s, s + 1, 2 * s, 48}) {
                NeighbourBook x = new NeighbourBook(n);
                x.setting(2, s);
                x.pack();
                int last = (n - 1) / s;
                String of = " of " + n + ", s " + s;
                due("count(4)" + of, x.count(4), last + 1);
                due("the first" + of, x.place(0), 0);
                // Rows without THINGS have two bits each.
                due("the last" + of, x.place(last), 2 * s * last);
                due("behind it" + of, x.place(last + 1), NONE);
            }
        }
    }

    @Says("Terms 4: STEP s 1 to 9, at first 4")
    void stepAtFirst() {
        NeighbourBook x = packed(new NeighbourBook(48));
        due("count(4)", x.count(4), 12);
        due("place(1)", x.place(1), 8);
        due("setting(2, 1)", x.setting(2, 1), 4);
    }

    @Says("Terms 4: FORMS, w, r, s that are told anew are for what is packed then.")
    void toldAnewForWhatIsPackedThen() {
        NeighbourBook x = chainOfFour();
        long sum = x.sum();
        x.setting(0, 0);
        x.setting(1, 0);
        x.setting(2, 9);
        for (int use = 0; use < 8; use++) {
            x.form(use, 9);
        }
        due("sum()", x.sum(), sum);
        due("told(3, 0)", x.told(3, 0), SAME);
        due("told(3, 2)", x.told(3, 2), 3);
        due("told(3, 3)", x.told(3, 3), 20);
        due("looked(3)", x.looked(3), 40);
        due("count(4)", x.count(4), 2);
        due("place(1)", x.place(1), 14);
        due("would(0, 0)", x.would(0, 0), 1 + 4 + 4 + 4);
        due("pack()", x.pack(), 4 * (7 + 7 + 7 + 1));
        due("then count(4)", x.count(4), 1);
    }

    // ---- promise 13

    @Says("Promise 13: THE BOOK is packed of the PAIRS as they are ... how many bits. [n = 1]")
    void packOfOneThing() {
        NeighbourBook x = new NeighbourBook(1);
        due("without pairs", x.pack(), 2);
        due("count(3)", x.count(3), 2);
        x.pair(0, 0);
        due("with one", x.pack(), 5);
        due("count(3)", x.count(3), 5);
        due("sum()", x.sum(), 33 + 0xA8);
    }

    @Says("Promise 13: THE BOOK is packed [of no PAIRS at all]")
    void packOfNoPairs() {
        for (int n = 1; n <= 48; n++) {
            NeighbourBook x = new NeighbourBook(n);
            due("pack() of " + n, x.pack(), 2 * n);
            due("count(5) of " + n, x.count(5), 0);
        }
    }

    @Says("Promise 13: THE BOOK is packed [of all PAIRS of 22 THINGS]")
    void packOfAllPairs() {
        NeighbourBook x = new NeighbourBook(22);
        for (int a = 0; a < 22; a++) {
            for (int b = 0; b < 22; b++) {
                x.pair(a, b);
            }
        }
        x.setting(0, 1);
        x.setting(1, 1);
        // By turns a SPAN of 22 (BEGIN 0 - x has more and more bits) and SAME.
        int[] begins = {1, 5, 7, 7, 9, 9, 9, 9, 11, 11, 11};
        int bits = 0;
        for (int begin : begins) {
            bits += 3 + 3 + begin + 9 + 1 + 6;
        }
        due("pack()", x.pack(), bits);
        due("count(5)", x.count(5), 11);
    }

    @Says("Promise 13: (there are no PATCHES then)")
    void packTakesPatches() {
        NeighbourBook x = packed(new NeighbourBook(48));
        for (int b = 0; b < 40; b++) {
            x.pair(0, b);
        }
        due("count(2)", x.count(2), 40);
        // A SPAN of 40: LENGTH 37.
        due("pack()", x.pack(), (3 + 3 + 1 + 11 + 1) + 47 * 2);
        due("count(2) then", x.count(2), 0);
        x.drop(0, 0);
        due("a PATCH by the new BOOK", x.count(2), 1);
        x.pair(0, 0);
        due("and none any more", x.count(2), 0);
    }

    @Says("Promise 13: THE BOOK is packed [again, of the same, the same]")
    void packAgain() {
        NeighbourBook x = fourAlike();
        due("pack()", x.pack(), 28);
        long sum = x.sum();
        x.alter(0, 255);
        due("pack() again", x.pack(), 28);
        due("sum()", x.sum(), sum);
        due("judge()", x.judge(), NONE);
    }

    // ---- promise 14

    @Says("Promise 14: 0 its KIND, 1 k (0 for none), 2 DEPTH, 3 its first bit, 4 how many bits. [the first and the last THING]")
    void toldFirstAndLast() {
        NeighbourBook x = chainOfFour();
        int[][] dues = {{0, 0, 0, 0, 0, 8}, {3, 3, 1, 3, 20, 6}};
        for (int[] d : dues) {
            for (int what = 0; what < 5; what++) {
                due("told(" + d[0] + ", " + what + ")", x.told(d[0], what), d[what + 1]);
            }
        }
        NeighbourBook y = packed(new NeighbourBook(1));
        int[] alone = {0, 0, 0, 0, 2};
        for (int what = 0; what < 5; what++) {
            due("told(0, " + what + ") of one", y.told(0, what), alone[what]);
        }
    }

    @Says("Promise 14: Of a's ROW in THE BOOK [whatever changed since]")
    void toldOfTheBook() {
        NeighbourBook x = chainOfFour();
        x.drop(3, 0);
        x.drop(3, 2);
        due("told(3, 0)", x.told(3, 0), SAME);
        due("told(3, 4)", x.told(3, 4), 6);
    }

    @Says("Promise 14: BAD")
    void toldBad() {
        for (int a : new int[] {LEAST, -1, 4, 48, MOST}) {
            refused("told(" + a + ", 0)", EdgesOfPackingTest::chainOfFour, x -> x.told(a, 0), BAD);
            refused("told(" + a + ", 4)", EdgesOfPackingTest::chainOfFour, x -> x.told(a, 4), BAD);
        }
        for (int what : new int[] {LEAST, -1, 5, 6, MOST}) {
            refused("told(0, " + what + ")", EdgesOfPackingTest::chainOfFour, x -> x.told(0, what), BAD);
        }
    }

    @Says("Promise 14: STATE: there is no BOOK.")
    void toldState() {
        for (int i = 0; i < 5; i++) {
            int what = i;
            refused("told(0, " + what + ")", Edges::fourAlike, x -> x.told(0, what), STATE);
        }
        NeighbourBook x = chainOfFour();
        x.renumber(0);
        due("renumbered", x.told(0, 0), STATE);
    }

    @Says("Promise 14: BAD; STATE [BAD ahead]")
    void toldBadAheadOfState() {
        NeighbourBook x = fourAlike();
        due("told(4, 0)", x.told(4, 0), BAD);
        due("told(-1, 0)", x.told(-1, 0), BAD);
        due("told(0, 5)", x.told(0, 5), BAD);
        due("told(0, -1)", x.told(0, -1), BAD);
    }

    // ---- promise 15, with READ

    @Says("Terms 4: all bits are looked at from the PLACE of the greatest of those THINGS that is not above x, to the end of x's")
    void lookedFromThePlace() {
        for (int s = 1; s <= 9; s++) {
            NeighbourBook x = new NeighbourBook(48);
            x.setting(2, s);
            x.pack();
            due("0, s " + s, x.looked(0), 2);
            due("the last ahead of a PLACE, s " + s, x.looked(s - 1), 2 * s);
            due("the one with a PLACE, s " + s, x.looked(s), 2);
            due("47, s " + s, x.looked(47), 2 * (47 % s + 1));
        }
    }

    @Says("Terms 4: and if it is copied, y's ROW is READ.")
    void lookedThroughACopy() {
        NeighbourBook x = chainOfFour();
        due("alone", x.looked(0), 8);
        due("DEPTH 1", x.looked(1), 14 + 8);
        due("DEPTH 2, at a PLACE", x.looked(2), 6 + 14 + 8);
        due("DEPTH 3", x.looked(3), 12 + 6 + 14 + 8);
    }

    @Says("Promise 15: How many bits are looked at to READ a's ROW. [the greatest DEPTH]")
    void lookedAtDepthFive() {
        NeighbourBook x = of(7, row(0, 2), row(0, 2), row(0, 2), row(0, 2), row(0, 2), row(0, 2), row(0, 2));
        x.setting(0, 1);
        x.setting(1, 5);
        x.setting(2, 1);
        x.pack();
        due("count(6)", x.count(6), 5);
        due("looked(5)", x.looked(5), 5 * 6 + 8);
        due("looked(6), alone again", x.looked(6), 14);
        x.setting(2, 9);
        x.pack();
        due("looked(5) from 0 on", x.looked(5), 38 + 32 + 26 + 20 + 14 + 8);
    }

    @Says("Promise 15: BAD")
    void lookedBad() {
        for (int a : new int[] {LEAST, -1, 4, 48, MOST}) {
            refused("looked(" + a + ")", EdgesOfPackingTest::chainOfFour, x -> x.looked(a), BAD);
        }
    }

    @Says("Promise 15: STATE likewise. [there is no BOOK]")
    void lookedState() {
        refused("looked(0)", Edges::fourAlike, x -> x.looked(0), STATE);
        refused("looked(3)", Edges::fourAlike, x -> x.looked(3), STATE);
        NeighbourBook x = chainOfFour();
        x.renumber(2);
        due("renumbered", x.looked(0), STATE);
    }

    @Says("Promise 15: BAD; STATE likewise. [BAD ahead]")
    void lookedBadAheadOfState() {
        NeighbourBook x = fourAlike();
        due("looked(4)", x.looked(4), BAD);
        due("looked(-1)", x.looked(-1), BAD);
    }

    // ---- promise 16

    @Says("Promise 16: How many bits all numbers of a USE in THE BOOK would have in a FORM. [a USE without numbers: 0]")
    void wouldWithoutNumbers() {
        NeighbourBook x = packed(new NeighbourBook(48));
        for (int form = 0; form <= 9; form++) {
            for (int use = FIRST; use <= LENGTH; use++) {
                due("would(" + use + ", " + form + ")", x.would(use, form), 0);
            }
        }
        due("KIND by 9", x.would(KIND, 9), 48 * 7);
        due("COUNT by 0", x.would(COUNT, 0), 48);
    }

    @Says("Promise 16: How many bits all numbers of a USE in THE BOOK would have in a FORM. [the first and the last of both]")
    void wouldFirstAndLast() {
        NeighbourBook x = packed(of(48, span(0, 47)));
        due("LENGTH 45 by 0", x.would(LENGTH, 0), 46);
        due("LENGTH 45 by 9", x.would(LENGTH, 9), 7);
        due("KIND 1 and 47 of 0, by 0", x.would(KIND, 0), 2 + 47);
        due("KIND 1 and 47 of 0, by 9", x.would(KIND, 9), 48 * 7);
        NeighbourBook y = packed(of(48, row(47)));
        due("FIRST 94 by 0", y.would(FIRST, 0), 95);
        due("FIRST 94 by 9", y.would(FIRST, 9), 8);
    }

    @Says("Promise 16: in THE BOOK [whatever changed since]")
    void wouldOfTheBook() {
        NeighbourBook x = packed(of(3, row(0)));
        x.drop(0, 0);
        x.form(COUNT, 9);
        due("would(1, 0)", x.would(COUNT, 0), 2 + 1 + 1);
        x.form(COUNT, 1);
        x.pack();
        due("would(1, 0), packed anew: none of those ahead", x.would(COUNT, 0), 1 + 1 + 1);
        due("would(2, 0)", x.would(FIRST, 0), 0);
    }

    @Says("Promise 16: BAD")
    void wouldBad() {
        for (int use : new int[] {LEAST, -1, 8, 9, MOST}) {
            refused("would(" + use + ", 0)", EdgesOfPackingTest::chainOfFour, x -> x.would(use, 0), BAD);
        }
        for (int form : new int[] {LEAST, -1, 10, 11, MOST}) {
            refused("would(0, " + form + ")", EdgesOfPackingTest::chainOfFour, x -> x.would(0, form), BAD);
            refused("would(7, " + form + ")", EdgesOfPackingTest::chainOfFour, x -> x.would(7, form), BAD);
        }
    }

    @Says("Promise 16: STATE.")
    void wouldState() {
        refused("would(0, 0)", Edges::fourAlike, x -> x.would(0, 0), STATE);
        refused("would(7, 9)", Edges::fourAlike, x -> x.would(7, 9), STATE);
        NeighbourBook x = chainOfFour();
        x.renumber(1);
        due("renumbered", x.would(0, 0), STATE);
    }

    @Says("Promise 16: BAD; STATE. [BAD ahead]")
    void wouldBadAheadOfState() {
        NeighbourBook x = fourAlike();
        due("would(8, 0)", x.would(8, 0), BAD);
        due("would(-1, 0)", x.would(-1, 0), BAD);
        due("would(0, 10)", x.would(0, 10), BAD);
        due("would(0, -1)", x.would(0, -1), BAD);
    }

    // ---- promise 17

    @Says("Promise 17: the FORM in which its numbers in THE BOOK have fewest bits (of several the lesser one)")
    void formsLesserOfSeveral() {
        NeighbourBook x = packed(of(48, row(0, 21, 42)));
        // GAPS 20, 20: 9 bits by 1, 9 by 2, 6 by 6 and 7.
        due("by 6", x.would(GAP, 6), 12);
        due("by 7", x.would(GAP, 7), 12);
        x.forms();
        due("GAP", x.form(GAP, 1), 6);
        // KINDS are 0 alone: 1 bit by 0, 1, 2 and 3.
        due("KIND", x.form(KIND, 1), 0);
        // FIRST 0, too.
        due("FIRST", x.form(FIRST, 1), 0);
    }

    @Says("Promise 17: (of several the lesser one) [8 and 9: numbers of a BOOK are too small for 9 alone]")
    void formsLesserOfTheLast() {
        NeighbourBook x = new NeighbourBook(48);
        x.setting(0, 0);
        x.pair(0, 47);
        x.pair(1, 47);
        x.pair(46, 0);
        x.pair(47, 0);
        x.pack();
        // FIRST 94, 92, 91, 93: 11 each by 2, 10 by 7 (90 / 16 is 5), 8 by 8 (90 / 32 is 2) and by 9.
        due("by 8", x.would(FIRST, 8), 32);
        due("by 9", x.would(FIRST, 9), 32);
        x.forms();
        due("the lesser one", x.form(FIRST, 1), 8);
        NeighbourBook y = packed(of(48, span(0, 47), row(), row(), row(), row(), row(), row(0)));
        y.forms();
        due("LENGTH 45: 9 by 6, 7 by 7, 8 and 9", y.form(LENGTH, 1), 7);
    }

    /** Rows of one THING each, PLAIN, with these numbers as FIRST: the FORM that is chosen for them. */
    private static int formOfFirst(int... numbers) {
        NeighbourBook x = new NeighbourBook(48);
        x.setting(0, 0);
        for (int i = 0; i < numbers.length; i++) {
            // 94 goes from 0 to 47, all others from about the middle.
            int a = numbers[i] == 94 ? 0 : 16 + i;
            int v = numbers[i] % 2 == 0 ? numbers[i] / 2 : -(numbers[i] + 1) / 2;
            x.pair(a, a + v);
        }
        x.pack();
        x.forms();
        return x.form(FIRST, 1);
    }

    @Says("Promise 17: Each USE gets the FORM in which its numbers in THE BOOK have fewest bits [each FORM that can be the one]")
    void formsOfEachKind() {
        due("0 0 1", formOfFirst(0, 0, 1), 0);
        due("0 0 0 0 20: 13 by DOUBLED and TWICE, 20 by STEPPED", formOfFirst(0, 0, 0, 0, 20), 1);
        due("0 94: 12 by TWICE, 14 by DOUBLED and k = 5", formOfFirst(0, 94), 2);
        due("2 3: 6 by k = 1 and 2, 7 by UNARY", formOfFirst(2, 3), 4);
        due("6 7: 8 by k = 2 and 3, 10 by k = 1", formOfFirst(6, 7), 5);
        due("12 14: 10 by k = 3 and 4, 12 by k = 2", formOfFirst(12, 14), 6);
        due("28 30: 12 by k = 4 and 5, 14 by k = 3", formOfFirst(28, 30), 7);
        due("60 62: 14 by k = 5 and 6, 16 by k = 4", formOfFirst(60, 62), 8);
    }

    @Says("Promise 17: Each USE gets the FORM [one without numbers: all have 0 bits, the lesser one]")
    void formsWithoutNumbers() {
        NeighbourBook x = new NeighbourBook(3);
        for (int use = 0; use < 8; use++) {
            x.form(use, 9);
        }
        x.pack();
        due("forms()", x.forms(), 6);
        for (int use = 0; use < 8; use++) {
            due("form(" + use + ", 1)", x.form(use, 1), 0);
        }
    }

    @Says("Promise 17: THE BOOK is written anew in these ... how many bits. [n = 1]")
    void formsOfOneThing() {
        NeighbourBook x = withForms(new NeighbourBook(1), KIND, 9, COUNT, 8);
        due("pack()", x.pack(), 7 + 6);
        due("forms()", x.forms(), 2);
        due("count(3)", x.count(3), 2);
        due("sum()", x.sum(), 33 + 0xC0);
        due("bit(2)", x.bit(2), NONE);
        due("again", x.forms(), 2);
    }

    @Says("Promise 17: with the same TELLINGS (and s as it was packed)")
    void formsSameTellings() {
        NeighbourBook x = chainOfFour();
        x.setting(0, 0);
        x.setting(1, 0);
        x.setting(2, 9);
        // KINDS 0 3 3 3: 2, 3, 3, 3 by 4; BACK 0 0 0: 3; COUNT 2, FIRST 0, GAP 1: 3, 1, 2.
        due("forms()", x.forms(), 11 + 3 + 6);
        int[] kinds = {0, 3, 3, 3};
        for (int a = 0; a < 4; a++) {
            due("told(" + a + ", 0)", x.told(a, 0), kinds[a]);
            due("told(" + a + ", 1)", x.told(a, 1), a == 0 ? 0 : 1);
            due("told(" + a + ", 2)", x.told(a, 2), a);
        }
        due("count(4)", x.count(4), 2);
        due("place(1)", x.place(1), 8 + 4);
        due("looked(3)", x.looked(3), 8 + 4 + 12 + 8);
        due("s is still as it was told", x.setting(2, 1), 9);
    }

    @Says("Promise 17: THE BOOK is written anew [what was altered is gone]")
    void formsWriteAnew() {
        NeighbourBook x = chainOfFour();
        x.alter(0, 255);
        x.alter(3, 255);
        x.forms();
        due("judge()", x.judge(), NONE);
        due("bit(0)", x.bit(0), 1);
    }

    @Says("Promise 17: STATE: no BOOK")
    void formsWithoutBook() {
        refused("forms()", Edges::fourAlike, NeighbourBook::forms, STATE);
        NeighbourBook x = chainOfFour();
        x.renumber(0);
        due("renumbered", x.forms(), STATE);
    }

    private static NeighbourBook onePatch(boolean comes) {
        NeighbourBook x = chainOfFour();
        x.alter(1, 3);
        if (comes) {
            x.pair(3, 3);
        } else {
            x.drop(0, 0);
        }
        return x;
    }

    @Says("Promise 17: STATE: ... or there are PATCHES.")
    void formsWithPatches() {
        refused("forms(), one came", () -> onePatch(true), NeighbourBook::forms, STATE);
        refused("forms(), one went", () -> onePatch(false), NeighbourBook::forms, STATE);
        NeighbourBook x = onePatch(true);
        x.drop(3, 3);
        due("it went again", x.forms(), 20);
        NeighbourBook y = onePatch(false);
        y.pair(0, 0);
        due("it came again", y.forms(), 20);
    }

    // ---- promise 18

    @Says("Promise 18: The least sum of bits [n = 1; no PAIRS]")
    void bestOfLittle() {
        NeighbourBook x = new NeighbourBook(1);
        due("best() of one", x.best(), 2);
        x.pair(0, 0);
        due("best() of one to itself", x.best(), 5);
        due("best() of 48", new NeighbourBook(48).best(), 96);
    }

    @Says("Promise 18: with k 1 to w [w 0: none]")
    void bestWithoutWindow() {
        NeighbourBook x = fourAlike();
        x.setting(1, 5);
        x.setting(0, 0);
        due("w 0", x.best(), 8 + 10 + 12 + 12);
        x.setting(0, 1);
        due("w 1", x.best(), 8 + 6 + 6 + 6);
    }

    @Says("Promise 18: with k 1 to w [w itself, and one more]")
    void bestAtTheEndOfTheWindow() {
        for (int k = 1; k <= 8; k++) {
            NeighbourBook x = of(48, row(0, 10, 20, 30, 40));
            for (int b = 0; b < 48; b += 10) {
                x.pair(k, b);
            }
            x.setting(0, 7);
            int alone = x.cost(k, PLAIN, 0);
            int copied = x.cost(k, SAME, k);
            due("best(), " + k + " behind", x.best(), (1 + 5 + 1 + 4 * 7) + 46 * 2 + (k <= 7 ? copied : alone));
        }
    }

    @Says("Promise 18: DEPTH at most r. [0; and the chain cut where it costs least]")
    void bestAtMostChain() {
        NeighbourBook x = fourAlike();
        int[] dues = {42, 8 + 6 + 12 + 6, 8 + 10 + 6 + 6, 26, 26, 26};
        for (int r = 0; r <= 5; r++) {
            x.setting(1, r);
            due("r " + r, x.best(), dues[r]);
        }
    }

    @Says("Promise 18: DEPTH at most r. [chains of seven, eight and twelve ROWS, r from 0 to 5]")
    void bestOfLongChains() {
        // Alone 8, 10, 12, 12, 14, 14, 14, 14, copied 6: those alone stand at most r + 1 apart.
        int[] seven = {84, 8 + 10 + 12 + 14 + 3 * 6, 8 + 10 + 14 + 4 * 6, 8 + 12 + 5 * 6, 8 + 12 + 5 * 6, 8 + 10 + 5 * 6};
        int[] eight = {98, 8 + 12 + 14 + 14 + 4 * 6, 8 + 12 + 14 + 5 * 6, 8 + 14 + 6 * 6, 8 + 12 + 6 * 6, 8 + 12 + 6 * 6};
        for (int r = 0; r <= 5; r++) {
            due("seven, r " + r, bestOfAlike(7, r), seven[r]);
            due("eight, r " + r, bestOfAlike(8, r), eight[r]);
        }
        due("twelve, r 5: just twice six", bestOfAlike(12, 5), 8 + 14 + 10 * 6);
    }

    private static int bestOfAlike(int n, int r) {
        NeighbourBook x = new NeighbourBook(n);
        for (int a = 0; a < n; a++) {
            x.pair(a, 0);
            x.pair(a, 2);
        }
        x.setting(0, 1);
        x.setting(1, r);
        return x.best();
    }

    @Says("Promise 18: from one ROW alone: that of y with the fewest bits of all with k 1 to w (of several the nearest)")
    void bestFromTheNearest() {
        // BACK has 3 bits for each k by FORM 5, so 1, 2 and 3 are all copied from the one just ahead.
        NeighbourBook x = fourAlike();
        x.form(BACK, 5);
        x.setting(1, 1);
        due("r 1: not all from the first", x.best(), 8 + 8 + 12 + 8);
        x.setting(1, 5);
        due("r 5", x.best(), 8 + 8 + 8 + 8);
    }

    @Says("Promise 18: from one ROW alone [also where another could be copied from, as that has too great a DEPTH]")
    void bestFromOneRowAlone() {
        // 2 may be SAME as 1 alone (6 bits), so by r = 1 it or 1 is not copied; pack() copies it from 0, by k = 2.
        NeighbourBook x = of(24, row(0, 5, 10, 15, 20), row(0, 5, 10, 15, 20), row(0, 5, 10, 15, 20));
        x.setting(1, 1);
        int first = 1 + 5 + 1 + 4 * 5;
        due("pack()", x.pack(), first + 6 + 8 + 21 * 2);
        due("best()", x.best(), first + (1 + 5 + 3 + 4 * 5) + 6 + 21 * 2);
    }

    @Says("Promise 18: by the FORMS, w and r as they are now, of the PAIRS as they are")
    void bestAsItIsNow() {
        NeighbourBook x = chainOfFour();
        x.form(KIND, 9);
        due("another FORM, by which the first is DENSE", x.best(), (7 + 1 + 3 + 1) + 3 * (7 + 1));
        x.drop(3, 0);
        x.drop(3, 2);
        due("other PAIRS", x.best(), (7 + 1 + 3 + 1) + 2 * (7 + 1) + (7 + 1));
        x.setting(1, 1);
        due("another r", x.best(), (7 + 1 + 3 + 1) + (7 + 3 + 3 + 1) + (7 + 1) + (7 + 1));
        x.setting(0, 0);
        due("another w", x.best(), (7 + 1 + 3 + 1) + (7 + 3 + 3 + 1) + (7 + 5 + 3 + 1) + (7 + 1));
    }

    @Says("Promise 18: The least sum of bits [that is asked alone: nothing is changed by it]")
    void bestChangesNothing() {
        NeighbourBook x = onePatch(true);
        x.best();
        due("as a twin that never heard it: 0", answersOf(x).equals(answersOf(onePatch(true))) ? 0 : 1, 0);
        NeighbourBook y = fourAlike();
        y.best();
        due("no BOOK by it", y.told(0, 0), STATE);
    }
}
