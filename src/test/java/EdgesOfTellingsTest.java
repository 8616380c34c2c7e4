/** The sentences on NUMBERS, FORMS, USES and TELLINGS, and those of promises 9 to 12, that name a boundary. */
public final class EdgesOfTellingsTest extends Edges {
    private static final int PLAIN = 0, SPANS = 1, COPIED = 2, SAME = 3, DENSE = 4;

    public static void main(String[] args) {
        run(new EdgesOfTellingsTest());
    }

    /** The FIRST number of a row of one THING told PLAIN: behind 1 (KIND) and 010 (COUNT). */
    private static String firstAsWritten(int a, int b, int form) {
        NeighbourBook x = new NeighbourBook(48);
        x.pair(a, b);
        x.form(FIRST, form);
        x.pack();
        String row = rowAsWritten(x, a);
        return row.startsWith("1" + "010") ? row.substring(4) : "not told PLAIN";
    }

    private static String rowAsWritten(NeighbourBook x, int a) {
        StringBuilder bits = new StringBuilder();
        int from = x.told(a, 3);
        int to = from + x.told(a, 4);
        for (int i = from; i < to; i++) {
            bits.append(x.bit(i));
        }
        return bits.toString();
    }

    private void written(String what, String got, String want) {
        due(what + " as " + want + ", and not as " + got + ": 0", got.equals(want) ? 0 : 1, 0);
    }

    // ---- Terms 2, with promise 11

    @Says("Terms 2: 0 UNARY: as many bits 0, then a 1.")
    void unary() {
        NeighbourBook x = new NeighbourBook(1);
        for (int v : new int[] {0, 1, 2, 63, 64, 99999, 100000}) {
            due("length(0, " + v + ")", x.length(0, v), v + 1);
        }
        written("0", firstAsWritten(0, 0, 0), "1");
        written("94", firstAsWritten(0, 47, 0), "0".repeat(94) + "1");
    }

    @Says("Terms 2: 1 DOUBLED: of the number and 1, with L bits (from its highest 1 on): L - 1 bits 0, then these, the highest first.")
    void doubled() {
        NeighbourBook x = new NeighbourBook(1);
        for (int digits = 1; digits <= 16; digits++) {
            int last = (1 << digits) - 2;
            due("length(1, " + last + "), the last with " + digits, x.length(1, last), 2 * digits - 1);
            due("length(1, " + (last + 1) + "), one more", x.length(1, last + 1), 2 * digits + 1);
        }
        due("length(1, 100000)", x.length(1, 100000), 33);
        written("0", firstAsWritten(0, 0, 1), "1");
        written("62, the last with 6", firstAsWritten(0, 31, 1), "00000" + "111111");
        written("63, the first with 7", firstAsWritten(32, 0, 1), "000000" + "1000000");
        written("94", firstAsWritten(0, 47, 1), "000000" + "1011111");
    }

    @Says("Terms 2: 2 TWICE: L - 1 by DOUBLED, then these but the highest one.")
    void twice() {
        NeighbourBook x = new NeighbourBook(1);
        // L - 1, of that the bits by DOUBLED.
        int[][] lengths = {{0, 1}, {1, 3}, {2, 3}, {3, 5}, {6, 5}, {7, 7}, {14, 7}, {15, 9}};
        for (int[] d : lengths) {
            int first = (1 << d[0]) - 1;
            int last = 2 * first;
            due("length(2, " + first + ")", x.length(2, first), d[1] + d[0]);
            due("length(2, " + last + ")", x.length(2, last), d[1] + d[0]);
        }
        due("length(2, 65535)", x.length(2, 65535), 9 + 16);
        due("length(2, 100000)", x.length(2, 100000), 9 + 16);
        written("0", firstAsWritten(0, 0, 2), "1");
        written("62, the last with 6", firstAsWritten(0, 31, 2), "00110" + "11111");
        written("63, the first with 7", firstAsWritten(32, 0, 2), "00111" + "000000");
        written("94", firstAsWritten(0, 47, 2), "00111" + "011111");
    }

    @Says("Terms 2: 3 + k, k 0 to 6, STEPPED: the number by 2 ^ k, cut, by UNARY, then its k lowest bits, the highest first.")
    void stepped() {
        NeighbourBook x = new NeighbourBook(1);
        for (int k = 0; k <= 6; k++) {
            int step = 1 << k;
            due("length(3 + " + k + ", 0)", x.length(3 + k, 0), 1 + k);
            due("length(3 + " + k + ", " + (step - 1) + ")", x.length(3 + k, step - 1), 1 + k);
            due("length(3 + " + k + ", " + step + ")", x.length(3 + k, step), 2 + k);
            due("length(3 + " + k + ", " + (2 * step - 1) + ")", x.length(3 + k, 2 * step - 1), 2 + k);
            due("length(3 + " + k + ", 100000)", x.length(3 + k, 100000), 100000 / step + 1 + k);
        }
        written("0, k 0", firstAsWritten(0, 0, 3), "1");
        written("0, k 6", firstAsWritten(0, 0, 9), "1" + "000000");
        written("94, k 0", firstAsWritten(0, 47, 3), "0".repeat(94) + "1");
        written("94, k 1", firstAsWritten(0, 47, 4), "0".repeat(47) + "1" + "0");
        written("63, k 6", firstAsWritten(32, 0, 9), "1" + "111111");
        written("64, k 6", firstAsWritten(0, 32, 9), "01" + "000000");
        written("94, k 6", firstAsWritten(0, 47, 9), "01" + "011110");
    }

    @Says("Terms 2: USES of numbers: 0 KIND, 1 COUNT ... 7 LENGTH; each has a FORM, at first 1.")
    void formsAtFirst() {
        for (int use = 0; use < 8; use++) {
            due("form(" + use + ", 0)", new NeighbourBook(1).form(use, 0), 1);
        }
    }

    @Says("Terms 2: FOLDED is a whole number v as 2 v, or, if it is below 0, as - 2 v - 1.")
    void folded() {
        // From what, to what, the number that UNARY tells.
        int[][] dues = {{0, 0, 0}, {47, 47, 0}, {0, 1, 2}, {1, 0, 1}, {46, 47, 2}, {47, 46, 1}, {0, 47, 94}, {47, 0, 93}};
        for (int[] d : dues) {
            NeighbourBook x = new NeighbourBook(48);
            x.pair(d[0], d[1]);
            x.form(FIRST, 0);
            due("FIRST of " + d[0] + " to " + d[1], x.cost(d[0], PLAIN, 0), 1 + 3 + d[2] + 1);
        }
    }

    // ---- Terms 3: PLAIN

    @Says("Terms 3: 0 PLAIN: ... (without any: COUNT alone)")
    void plainWithout() {
        NeighbourBook x = new NeighbourBook(48);
        x.form(FIRST, 9);
        x.form(GAP, 9);
        due("cost(0, 0, 0)", x.cost(0, PLAIN, 0), 1 + 1);
        due("cost(47, 0, 0)", x.cost(47, PLAIN, 0), 1 + 1);
    }

    @Says("Terms 3: 0 PLAIN: COUNT d; FIRST the first one less x, FOLDED [one THING: no GAP]")
    void plainOfOne() {
        NeighbourBook x = of(48, row(47));
        x.form(GAP, 9);
        due("cost(0, 0, 0)", x.cost(0, PLAIN, 0), 1 + 3 + 13);
    }

    @Says("Terms 3: 0 PLAIN: ... of each other one GAP it less the one ahead, less 1 [the least and the greatest]")
    void plainGaps() {
        NeighbourBook x = of(48, row(0, 1), row(0, 47));
        x.form(GAP, 0);
        due("GAP 0", x.cost(0, PLAIN, 0), 1 + 3 + 1 + 1);
        due("GAP 46", x.cost(1, PLAIN, 0), 1 + 3 + 3 + 47);
    }

    @Says("Terms 3: 0 PLAIN [a ROW of all 48 THINGS]")
    void plainOfAll() {
        NeighbourBook x = of(48, span(0, 47));
        for (int b = 0; b < 48; b++) {
            x.pair(47, b);
        }
        due("FIRST 0", x.cost(0, PLAIN, 0), 1 + 11 + 1 + 47);
        due("FIRST 0 - 47", x.cost(47, PLAIN, 0), 1 + 11 + 13 + 47);
    }

    // ---- Terms 3: SPANS

    @Says("Terms 3: 1 SPANS: a SPAN is a run of three or more THINGS [two are none]")
    void spansOfTwo() {
        NeighbourBook x = of(48, row(3, 4));
        due("{3, 4}", x.cost(0, SPANS, 0), 3 + 1 + (3 + 5 + 1));
    }

    @Says("Terms 3: 1 SPANS: a SPAN is a run of three or more THINGS [three are one]")
    void spansOfThree() {
        NeighbourBook x = of(48, row(3, 4, 5), row(3, 4, 6));
        due("{3, 4, 5}", x.cost(0, SPANS, 0), 3 + 3 + (5 + 1) + 1);
        due("{3, 4, 6}: no run", x.cost(1, SPANS, 0), 3 + 1 + (5 + 5 + 1 + 3));
    }

    @Says("Terms 3: 1 SPANS: ... each 1 more than the one ahead, as long as can be")
    void spansAsLongAsCanBe() {
        NeighbourBook x = of(48, span(3, 8), span(0, 47));
        x.form(LENGTH, 0);
        due("six, and not twice three", x.cost(0, SPANS, 0), 3 + 3 + (5 + 4) + 1);
        due("all 48", x.cost(1, SPANS, 0), 3 + 3 + (3 + 46) + 1);
    }

    @Says("Terms 3: 1 SPANS: ... of others GAP, less the last THING of the SPAN ahead, less 2 [the least and the greatest]")
    void spansGaps() {
        NeighbourBook x = of(48, row(0, 1, 2, 4, 5, 6), row(0, 1, 2, 45, 46, 47));
        x.form(GAP, 0);
        due("GAP 0", x.cost(0, SPANS, 0), 3 + 3 + (1 + 1) + (1 + 1) + 1);
        due("GAP 41", x.cost(1, SPANS, 0), 3 + 3 + (3 + 1) + (42 + 1) + 1);
    }

    @Says("Terms 3: 1 SPANS: ... COUNT how many SPANS [twelve, the most that 48 THINGS have]")
    void spansTwelve() {
        NeighbourBook x = new NeighbourBook(48);
        for (int b = 0; b < 48; b++) {
            if (b % 4 != 3) {
                x.pair(0, b);
            }
        }
        due("twelve", x.cost(0, SPANS, 0), 3 + 7 + (1 + 1) + 11 * (1 + 1) + 1);
    }

    @Says("Terms 3: 1 SPANS: ... of the first SPAN BEGIN, less x, FOLDED [the least and the greatest]")
    void spansBegin() {
        NeighbourBook x = of(48, span(45, 47));
        x.pair(47, 0);
        x.pair(47, 1);
        x.pair(47, 2);
        x.form(BEGIN, 0);
        due("45 as 90", x.cost(0, SPANS, 0), 3 + 3 + (91 + 1) + 1);
        due("0 - 47 as 93", x.cost(47, SPANS, 0), 3 + 3 + (94 + 1) + 1);
    }

    @Says("Terms 3: 1 SPANS: ... Then the THINGS that are in no SPAN, as PLAIN from COUNT on. [none; some; no SPAN]")
    void spansAndOthers() {
        NeighbourBook x = of(48, row(), row(1, 2, 3), row(0, 1, 3, 4, 5, 7), row(3));
        due("without things", x.cost(0, SPANS, 0), 3 + 1 + 1);
        due("a SPAN alone", x.cost(1, SPANS, 0), 3 + 3 + (1 + 1) + 1);
        due("some on both sides", x.cost(2, SPANS, 0), 3 + 3 + (3 + 1) + (5 + 5 + 1 + 5));
        due("no SPAN", x.cost(3, SPANS, 0), 3 + 1 + (3 + 1));
    }

    // ---- Terms 3: COPIED, SAME, DENSE

    @Says("Terms 3: 2 COPIED ... BLOCKS by turns: those that are in x's ROW, too (first; perhaps none) [y's ROW without THINGS: one BLOCK, of none]")
    void copiedFromNone() {
        NeighbourBook x = of(3, row(), row(1), row());
        due("one thing of its own", x.cost(1, COPIED, 1), 3 + 1 + 1 + 1 + (3 + 1));
        due("both without", x.cost(2, COPIED, 2), 3 + 3 + 1 + 1 + 1);
    }

    @Says("Terms 3: 2 COPIED [x's ROW without THINGS: a BLOCK of none, then all]")
    void copiedOfNone() {
        NeighbourBook x = of(3, row(0, 1, 2), row());
        due("cost(1, 2, 1)", x.cost(1, COPIED, 1), 3 + 1 + (3 + 1) + 1 + 1);
    }

    @Says("Terms 3: 2 COPIED ... COUNT how many BLOCKS, less 1 [one BLOCK alone, which is not told]")
    void copiedOfAll() {
        NeighbourBook x = of(48, span(0, 47), span(0, 47));
        x.form(BLOCK, 9);
        due("all 48", x.cost(1, COPIED, 1), 3 + 1 + 1 + 1 + 1);
    }

    @Says("Terms 3: 2 COPIED ... then of each but the last one BLOCK how many, the first as it is, others less 1.")
    void copiedBlocks() {
        NeighbourBook x = of(8, row(0, 1, 2, 3, 5, 7), row(1, 2, 7), row(0, 1, 2, 3, 5));
        x.form(BLOCK, 0);
        // None, one not, two, two not, and one that is not told.
        due("first of none", x.cost(1, COPIED, 1), 3 + 1 + 5 + (1 + 1 + 2 + 2) + 1 + 1);
        // Five, and one not that is not told.
        due("first of five", x.cost(2, COPIED, 2), 3 + 3 + 3 + 6 + 1 + 1);
    }

    @Says("Terms 3: 2 COPIED [49 BLOCKS, the most that there can be]")
    void copiedMostBlocks() {
        NeighbourBook x = of(48, span(0, 47));
        for (int b = 1; b < 48; b += 2) {
            x.pair(1, b);
        }
        due("COUNT 48, 48 BLOCKS of 0", x.cost(1, COPIED, 1), 3 + 1 + 11 + 48 + 1 + 1);
    }

    @Says("Terms 3: 2 COPIED ... Then the THINGS that are not in y's ROW, as SPANS from COUNT on. [SPANS of these alone]")
    void copiedOthers() {
        NeighbourBook x = of(48, row(4), row(3, 4, 5, 6, 7, 9));
        // 3; a SPAN 5 6 7; 9: what is left, without the 4.
        due("cost(1, 2, 1)", x.cost(1, COPIED, 1), 3 + 1 + 1 + (3 + 7 + 1) + (3 + 5 + 5));
    }

    @Says("Terms 3: 3 SAME (just where x's ROW is y's): BACK k - 1.")
    void same() {
        NeighbourBook x = of(8, row(), row(1, 2), row(1, 2), row(1), row(1, 2, 3), row(), row(), row(1, 2));
        due("alike", x.cost(2, SAME, 1), 5 + 1);
        due("alike, k 6", x.cost(7, SAME, 6), 5 + 5);
        due("both without", x.cost(5, SAME, 5), 5 + 5);
        due("one less", x.cost(3, SAME, 1), STATE);
        due("one more", x.cost(4, SAME, 2), STATE);
        due("without, and not", x.cost(5, SAME, 1), STATE);
    }

    @Says("Terms 3: 4 DENSE (not without THINGS)")
    void denseWithout() {
        NeighbourBook x = new NeighbourBook(2);
        due("cost(0, 4, 0)", x.cost(0, DENSE, 0), STATE);
        x.pair(0, 0);
        due("with one", x.cost(0, DENSE, 0), 5 + 1 + 1);
        x.drop(0, 0);
        due("gone again", x.cost(0, DENSE, 0), STATE);
    }

    @Says("Terms 3: 4 DENSE ... COUNT the last one less the first; then for each THING between both, in order, a bit [none between]")
    void denseOfNeighbours() {
        NeighbourBook x = of(48, row(47), row(1, 2), row(2, 4), row(0));
        x.form(COUNT, 4);
        due("one", x.cost(0, DENSE, 0), 5 + 13 + 2);
        due("one, 0", x.cost(3, DENSE, 0), 5 + 5 + 2);
        x.form(COUNT, 0);
        due("one, 0, by UNARY", x.cost(3, DENSE, 0), 5 + 5 + 1);
        x.form(COUNT, 1);
        due("two neighbours", x.cost(1, DENSE, 0), 5 + 1 + 3);
        due("one between", x.cost(2, DENSE, 0), 5 + 1 + 3 + 1);
    }

    @Says("Terms 3: 4 DENSE [from 0 to 47: 46 bits]")
    void denseOfAll() {
        NeighbourBook x = of(48, span(0, 47), row(0, 47));
        due("all 48", x.cost(0, DENSE, 0), 5 + 1 + 11 + 46);
        due("the first and the last", x.cost(1, DENSE, 0), 5 + 3 + 11 + 46);
    }

    @Says("Terms 3: 4 DENSE ... then for each THING between both, in order, a bit: 1, if it is in the ROW. [the first and the last of them]")
    void denseBits() {
        NeighbourBook x = of(24, row(0, 2, 4, 6, 8, 10, 12, 14, 16, 18, 20, 22), row(1, 2, 4, 6, 8, 10, 12, 14, 16, 18, 19, 20));
        x.setting(0, 0);
        x.pack();
        // KIND 4, FIRST 0, COUNT 22.
        written("not, and then by turns", rowAsWritten(x, 0), "00101" + "1" + "000010111" + "010101010101010101010");
        // KIND 4, FIRST 0, COUNT 19: the first and the last between both are in the ROW.
        written("in it", rowAsWritten(x, 1), "00101" + "1" + "000010100" + "101010101010101011");
    }

    // ---- Terms 3: all that is written, in order

    @Says("Terms 3: their KIND is written first (USE KIND). With numbers by USES, in order [each KIND, each USE in a FORM of its own]")
    void writtenInOrder() {
        NeighbourBook x = of(48, row(1, 4));
        int[][] runs = {{1, 0, 19}, {1, 22, 24}, {1, 30, 30}, {2, 0, 9}, {2, 12, 19}, {2, 22, 22}, {2, 40, 40}};
        for (int[] run : runs) {
            for (int b = run[1]; b <= run[2]; b++) {
                x.pair(run[0], b);
            }
        }
        for (int b = 0; b <= 40; b++) {
            if (x.has(2, b) == 1) {
                x.pair(3, b);
            }
        }
        for (int b = 4; b <= 24; b += 2) {
            x.pair(4, b);
        }
        int[] forms = {1, 1, 2, 1, 4, 5, 6, 7};
        for (int use = 0; use < 8; use++) {
            x.form(use, forms[use]);
        }
        x.pack();
        // KIND 0; COUNT 2, FIRST 2, GAP 2.
        written("PLAIN", rowAsWritten(x, 0), "1" + "011" + "0101" + "011");
        // KIND 1; COUNT 2, BEGIN 1, LENGTH 17, GAP 1, LENGTH 0; COUNT 1, FIRST 58.
        written("SPANS", rowAsWritten(x, 1), "010" + "011" + "1001" + "010001" + "010" + "10000" + "010" + "0011011011");
        // KIND 2, BACK 0; COUNT 3, BLOCK 10, 1, 8; COUNT 0; COUNT 1, FIRST 76.
        String blocks = "00100" + "00110" + "101" + "00100";
        written("COPIED", rowAsWritten(x, 2), "011" + "10" + blocks + "1" + "010" + "00111001101");
        // KIND 3, BACK 0.
        written("SAME", rowAsWritten(x, 3), "00100" + "10");
        // KIND 4; FIRST 0, COUNT 20, and 19 bits.
        written("DENSE", rowAsWritten(x, 4), "00101" + "1" + "000010101" + "0" + "10".repeat(9));
    }

    // ---- Terms 3: DEPTH, WINDOW, CHAIN

    /** Rows {0, 2} of n things, copied (SAME, 6 bits) from the one ahead wherever that may be. */
    private static NeighbourBook alike(int n, int window, int chain) {
        NeighbourBook x = new NeighbourBook(n);
        for (int a = 0; a < n; a++) {
            x.pair(a, 0);
            x.pair(a, 2);
        }
        x.setting(0, window);
        x.setting(1, chain);
        return packed(x);
    }

    @Says("Terms 3: DEPTH is 0 of KINDS 0, 1, 4")
    void depthOfNoCopy() {
        NeighbourBook x = of(24, row(), span(0, 9), row(0, 2, 4, 6, 8, 10, 12, 14, 16, 18, 20, 22));
        x.pack();
        int[] kinds = {0, 1, 4};
        for (int a = 0; a < 3; a++) {
            due("told(" + a + ", 0)", x.told(a, 0), kinds[a]);
            due("told(" + a + ", 1)", x.told(a, 1), 0);
            due("told(" + a + ", 2)", x.told(a, 2), 0);
        }
    }

    @Says("Terms 3: DEPTH is ... of others 1 more than that of y's ROW; it may be r at most.")
    void depthAtMostChain() {
        for (int chain = 0; chain <= 5; chain++) {
            NeighbourBook x = alike(14, 1, chain);
            for (int a = 0; a < 14; a++) {
                due("told(" + a + ", 2) by CHAIN " + chain, x.told(a, 2), a % (chain + 1));
                due("told(" + a + ", 0) by CHAIN " + chain, x.told(a, 0), a % (chain + 1) == 0 ? 0 : 3);
            }
            due("count(6) by CHAIN " + chain, x.count(6), chain);
        }
    }

    @Says("Terms 3: CHAIN r 0 to 5 [0: nothing is copied]")
    void chainOfNone() {
        NeighbourBook x = alike(5, 7, 0);
        due("count(5)", x.count(5), 0);
        due("count(6)", x.count(6), 0);
        due("count(3)", x.count(3), 8 + 10 + 12 + 12 + 14);
    }

    @Says("Terms 3: WINDOW w 0 to 7 [0: nothing is copied]")
    void windowOfNone() {
        NeighbourBook x = alike(5, 0, 5);
        due("count(5)", x.count(5), 0);
        due("count(6)", x.count(6), 0);
        due("count(3)", x.count(3), 8 + 10 + 12 + 12 + 14);
    }

    @Says("Terms 3: y = x - k, k 1 to w [w itself, and one more]")
    void windowAtItsEnd() {
        for (int window = 1; window <= 7; window++) {
            for (int k = 1; k <= 8; k++) {
                NeighbourBook x = of(48, row(0, 10, 20, 30, 40));
                for (int b = 0; b < 48; b += 10) {
                    x.pair(k, b);
                }
                x.setting(0, window);
                x.pack();
                due("KIND, " + k + " behind, WINDOW " + window, x.told(k, 0), k <= window ? 3 : 0);
                due("k, " + k + " behind, WINDOW " + window, x.told(k, 1), k <= window ? k : 0);
            }
        }
    }

    @Says("Terms 3: y = x - k [a THING: none below 0 is copied from]")
    void windowBeyondTheFirst() {
        NeighbourBook x = packed(of(2, row(0), row(0)));
        due("told(0, 0)", x.told(0, 0), 0);
        due("told(0, 1)", x.told(0, 1), 0);
        x.setting(0, 7);
        x.pack();
        due("told(0, 0) by WINDOW 7", x.told(0, 0), 0);
        due("told(1, 1) by WINDOW 7", x.told(1, 1) <= 1 ? 1 : 0, 1);
    }

    @Says("Terms 3: (WINDOW w 0 to 7, at first 3; CHAIN r 0 to 5, at first 2.)")
    void windowAndChainAtFirst() {
        NeighbourBook x = of(48, row(0, 10, 20, 30, 40), row(), row(), row(0, 10, 20, 30, 40));
        x.pack();
        due("3 behind", x.told(3, 0), 3);
        NeighbourBook y = of(48, row(0, 10, 20, 30, 40), row(), row(), row(), row(0, 10, 20, 30, 40));
        y.pack();
        due("4 behind", y.told(4, 0), 0);
        NeighbourBook z = fourAlike();
        z.pack();
        due("DEPTH 2", z.told(2, 2), 2);
        due("no DEPTH 3", z.told(3, 2), 2);
        due("but a greater k", z.told(3, 1), 2);
        due("setting(0, 0)", z.setting(0, 0), 3);
        due("setting(1, 0)", z.setting(1, 0), 2);
    }

    // ---- promise 9

    @Says("Promise 9: The FORM (0 .. 9) of a USE: what it was. [the first and the last of both]")
    void formWithinLimits() {
        NeighbourBook x = new NeighbourBook(1);
        due("form(0, 0)", x.form(0, 0), 1);
        due("form(0, 9)", x.form(0, 9), 0);
        due("form(0, 9) again", x.form(0, 9), 9);
        due("form(7, 9)", x.form(7, 9), 1);
        due("form(7, 0)", x.form(7, 0), 9);
        due("form(7, 0) again", x.form(7, 0), 0);
        due("form(0, 1): each has its own", x.form(0, 1), 9);
    }

    @Says("Promise 9: BAD. [the USE, the FORM]")
    void formBad() {
        for (int v : new int[] {LEAST, -2, -1, 10, 11, MOST}) {
            refused("form(0, " + v + ")", Edges::fourAlike, x -> x.form(0, v), BAD);
            refused("form(7, " + v + ")", Edges::fourAlike, x -> x.form(7, v), BAD);
        }
        for (int v : new int[] {LEAST, -2, -1, 8, 9, MOST}) {
            refused("form(" + v + ", 0)", Edges::fourAlike, x -> x.form(v, 0), BAD);
            refused("form(" + v + ", 9)", Edges::fourAlike, x -> x.form(v, 9), BAD);
        }
    }

    // ---- promise 10

    @Says("Promise 10: w (what = 0), r (1), s (2): what it was. [0 to 7, 0 to 5, 1 to 9]")
    void settingWithinLimits() {
        int[][] limits = {{0, 7, 3}, {0, 5, 2}, {1, 9, 4}};
        for (int what = 0; what < 3; what++) {
            NeighbourBook x = new NeighbourBook(1);
            int was = limits[what][2];
            for (int v = limits[what][0]; v <= limits[what][1]; v++) {
                due("setting(" + what + ", " + v + ")", x.setting(what, v), was);
                was = v;
            }
            due("back to the least", x.setting(what, limits[what][0]), limits[what][1]);
        }
    }

    @Says("Promise 10: BAD. [what, v]")
    void settingBad() {
        int[][] outside = {{LEAST, -1, 8, 9, MOST}, {LEAST, -1, 6, 7, MOST}, {LEAST, -1, 0, 10, MOST}};
        for (int i = 0; i < 3; i++) {
            int what = i;
            for (int v : outside[what]) {
                refused("setting(" + what + ", " + v + ")", Edges::fourAlike, x -> x.setting(what, v), BAD);
            }
        }
        for (int what : new int[] {LEAST, -1, 3, 4, MOST}) {
            refused("setting(" + what + ", 1)", Edges::fourAlike, x -> x.setting(what, 1), BAD);
        }
    }

    // ---- promise 11

    @Says("Promise 11: How many bits a number (0 .. 100000) has in a FORM.")
    void lengthWithinLimits() {
        NeighbourBook x = new NeighbourBook(1);
        int[] of0 = {1, 1, 1, 1, 2, 3, 4, 5, 6, 7};
        int[] of100000 = {100001, 33, 25, 100001, 50002, 25003, 12504, 6255, 3131, 1569};
        for (int form = 0; form <= 9; form++) {
            due("length(" + form + ", 0)", x.length(form, 0), of0[form]);
            due("length(" + form + ", 100000)", x.length(form, 100000), of100000[form]);
        }
    }

    @Says("Promise 11: BAD. [the FORM, the number]")
    void lengthBad() {
        for (int form = 0; form <= 9; form++) {
            NeighbourBook x = new NeighbourBook(1);
            for (int v : new int[] {LEAST, -100000, -2, -1, 100001, 100002, MOST - 1, MOST}) {
                due("length(" + form + ", " + v + ")", x.length(form, v), BAD);
            }
        }
        for (int form : new int[] {LEAST, -1, 10, 11, MOST}) {
            refused("length(" + form + ", 0)", Edges::fourAlike, x -> x.length(form, 0), BAD);
            refused("length(" + form + ", 100000)", Edges::fourAlike, x -> x.length(form, 100000), BAD);
            refused("length(" + form + ", 100001)", Edges::fourAlike, x -> x.length(form, 100001), BAD);
        }
    }

    // ---- promise 12

    @Says("Promise 12: (2, 3: from the ROW of a - k, whatever its DEPTH and w;")
    void costWhateverDepthAndWindow() {
        NeighbourBook x = alike(48, 0, 0);
        due("SAME from 46", x.cost(47, SAME, 1), 5 + 1);
        due("SAME from 0", x.cost(47, SAME, 47), 5 + 11);
        due("COPIED from 0", x.cost(47, COPIED, 47), 3 + 11 + 1 + 1 + 1);
        NeighbourBook y = alike(8, 1, 5);
        due("DEPTH 5 ahead", y.told(5, 2), 5);
        due("SAME from it", y.cost(6, SAME, 1), 5 + 1);
        due("COPIED from it", y.cost(6, COPIED, 1), 3 + 1 + 1 + 1 + 1);
    }

    @Says("Promise 12: else k is not looked at")
    void costWithoutK() {
        NeighbourBook x = of(4, row(0, 1, 2));
        for (int k : new int[] {LEAST, -1, 0, 1, 48, MOST}) {
            due("PLAIN, k " + k, x.cost(0, PLAIN, k), 1 + 5 + 1 + 1 + 1);
            due("SPANS, k " + k, x.cost(0, SPANS, k), 3 + 3 + 1 + 1 + 1);
            due("DENSE, k " + k, x.cost(0, DENSE, k), 5 + 1 + 3 + 1);
            due("DENSE without things, k " + k, x.cost(1, DENSE, k), STATE);
        }
    }

    @Says("Promise 12: a's ROW, as it is now ... by the FORMS as they are now")
    void costAsItIsNow() {
        NeighbourBook x = packed(of(4, row(0), row(0)));
        x.drop(1, 0);
        due("a PATCH: PLAIN", x.cost(1, PLAIN, 0), 1 + 1);
        due("a PATCH: SAME no more", x.cost(1, SAME, 1), STATE);
        x.drop(0, 0);
        due("SAME again, both without", x.cost(1, SAME, 1), 5 + 1);
        x.form(KIND, 9);
        due("another FORM", x.cost(1, SAME, 1), 7 + 1);
    }

    @Says("Promise 12: BAD: a")
    void costBadThing() {
        for (int a : new int[] {LEAST, -1, 4, 48, MOST}) {
            for (int kind = 0; kind < 5; kind++) {
                int of = kind;
                refused("cost(" + a + ", " + kind + ", 1)", Edges::fourAlike, x -> x.cost(a, of, 1), BAD);
            }
        }
    }

    @Says("Promise 12: BAD: ... the KIND")
    void costBadKind() {
        for (int kind : new int[] {LEAST, -1, 5, 6, MOST}) {
            refused("cost(1, " + kind + ", 1)", Edges::fourAlike, x -> x.cost(1, kind, 1), BAD);
            refused("cost(1, " + kind + ", 0)", Edges::fourAlike, x -> x.cost(1, kind, 0), BAD);
        }
    }

    @Says("Promise 12: BAD: ... of 2 and 3 a THING a - k (k 1 or more)")
    void costBadBack() {
        NeighbourBook x = fourAlike();
        for (int kind = COPIED; kind <= SAME; kind++) {
            due("the first k", x.cost(3, kind, 1) > 0 ? 1 : 0, 1);
            due("the last k", x.cost(3, kind, 3) > 0 ? 1 : 0, 1);
            int of = kind;
            for (int k : new int[] {LEAST, LEAST + 1, -48, -1, 0, 4, 5, 48, MOST - 1, MOST}) {
                refused("cost(3, " + kind + ", " + k + ")", Edges::fourAlike, y -> y.cost(3, of, k), BAD);
            }
            due("none ahead of 0", x.cost(0, kind, 1), BAD);
            due("nor is 0 its own", x.cost(0, kind, 0), BAD);
        }
    }

    @Says("Promise 12: STATE: 3, and the ROWS are not the same, 4 without THINGS.")
    void costState() {
        refused("cost(1, 3, 1)", () -> of(3, row(0)), x -> x.cost(1, SAME, 1), STATE);
        refused("cost(2, 3, 2)", () -> of(3, row(0)), x -> x.cost(2, SAME, 2), STATE);
        refused("cost(1, 4, 0)", () -> of(3, row(0)), x -> x.cost(1, DENSE, 0), STATE);
    }

    @Says("Promise 12: BAD ... STATE [BAD ahead]")
    void costBadAheadOfState() {
        NeighbourBook x = of(3, row(0));
        due("SAME, k 0", x.cost(1, SAME, 0), BAD);
        due("SAME, k 2", x.cost(1, SAME, 2), BAD);
        due("DENSE of no thing", x.cost(3, DENSE, 0), BAD);
        due("SAME of no thing", x.cost(-1, SAME, 1), BAD);
    }
}
