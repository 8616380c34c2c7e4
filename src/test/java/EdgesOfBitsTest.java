import java.math.BigInteger;

/** The sentences of promises 19 to 23 that name a boundary. */
public final class EdgesOfBitsTest extends Edges {
    public static void main(String[] args) {
        run(new EdgesOfBitsTest());
    }

    /** Bits 1 010 1 and 1 1: one less than a byte. */
    private static NeighbourBook sevenBits() {
        return packed(of(2, row(0)));
    }

    /** Bits 1 1 four times: just a byte. */
    private static NeighbourBook eightBits() {
        return packed(new NeighbourBook(4));
    }

    /** Bits 1 010 1 and 1 1 twice: one more than a byte. */
    private static NeighbourBook nineBits() {
        return packed(of(3, row(0)));
    }

    // ---- promise 19

    @Says("Promise 19: Bit i of THE BOOK: 1, 0 [from the first to the last]")
    void bitFirstToLast() {
        int[] nine = {1, 0, 1, 0, 1, 1, 1, 1, 1};
        NeighbourBook x = nineBits();
        for (int i = 0; i < nine.length; i++) {
            due("bit(" + i + ")", x.bit(i), nine[i]);
        }
        due("count(3)", x.count(3), nine.length);
    }

    @Says("Promise 19: NONE. [behind the last bit, also where 0s fill its byte]")
    void bitBehindTheLast() {
        due("bit(7) of 7", sevenBits().bit(7), NONE);
        due("bit(8) of 7", sevenBits().bit(8), NONE);
        due("bit(7) of 8", eightBits().bit(7), 1);
        due("bit(8) of 8", eightBits().bit(8), NONE);
        due("bit(8) of 9", nineBits().bit(8), 1);
        due("bit(9) of 9", nineBits().bit(9), NONE);
        due("bit(15) of 9", nineBits().bit(15), NONE);
        due("bit(16) of 9", nineBits().bit(16), NONE);
        due("bit(2) of 2", packed(new NeighbourBook(1)).bit(2), NONE);
    }

    @Says("Promise 19: NONE. [i below 0, and far outside]")
    void bitFarOutside() {
        for (int i : new int[] {LEAST, LEAST + 1, -8, -1, 100000, MOST - 7, MOST}) {
            due("bit(" + i + ")", nineBits().bit(i), NONE);
        }
    }

    @Says("Promise 19: NONE. [no BOOK]")
    void bitWithoutBook() {
        due("never packed", fourAlike().bit(0), NONE);
        NeighbourBook x = nineBits();
        x.renumber(0);
        due("renumbered", x.bit(0), NONE);
        x.pack();
        due("packed again", x.bit(0), 1);
    }

    @Says("Promise 19: Bit i of THE BOOK [fewer than there were, after it is written anew]")
    void bitOfAShorterBook() {
        NeighbourBook x = of(3, row(0, 1, 2));
        due("pack()", x.pack(), 9 + 4);
        x.drop(0, 0);
        x.drop(0, 1);
        x.drop(0, 2);
        due("pack() anew", x.pack(), 6);
        due("bit(5)", x.bit(5), 1);
        due("bit(6)", x.bit(6), NONE);
        due("nothing is left behind the last", x.sum(), 33 + 0xFC);
    }

    // ---- promise 20

    private static NeighbourBook byStep(int n, int s) {
        NeighbourBook x = new NeighbourBook(n);
        x.setting(2, s);
        return packed(x);
    }

    @Says("Promise 20: PLACE i [from the first to the last]")
    void placeFirstToLast() {
        NeighbourBook x = byStep(48, 1);
        for (int i = 0; i < 48; i++) {
            due("place(" + i + ")", x.place(i), 2 * i);
        }
        due("place(5) by s 9", byStep(48, 9).place(5), 90);
        due("place(0) of 1", byStep(1, 9).place(0), 0);
    }

    @Says("Promise 20: NONE. [behind the last, below 0, far outside]")
    void placeOutside() {
        due("place(48) by s 1", byStep(48, 1).place(48), NONE);
        due("place(6) by s 9", byStep(48, 9).place(6), NONE);
        due("place(5) by s 9 of 45", byStep(45, 9).place(5), NONE);
        due("place(5) by s 9 of 46", byStep(46, 9).place(5), 90);
        due("place(1) of 1", byStep(1, 1).place(1), NONE);
        for (int i : new int[] {LEAST, LEAST / 9, -2, -1, 1 << 29, 1 << 30, MOST / 9 + 1, MOST}) {
            due("place(" + i + ") by s 9", byStep(48, 9).place(i), NONE);
            due("place(" + i + ") by s 8", byStep(48, 8).place(i), NONE);
            due("place(" + i + ") by s 4", byStep(48, 4).place(i), NONE);
        }
    }

    @Says("Promise 20: NONE. [no BOOK]")
    void placeWithoutBook() {
        due("never packed", fourAlike().place(0), NONE);
        NeighbourBook x = byStep(3, 1);
        x.renumber(0);
        due("renumbered", x.place(0), NONE);
    }

    // ---- promise 21

    private static BigInteger hash(BigInteger h, int value) {
        return h.multiply(BigInteger.valueOf(33)).add(BigInteger.valueOf(value));
    }

    @Says("Promise 21: The bits in rows of eight, the first one the highest of its byte, 0s behind the last")
    void sumOfBytes() {
        due("2 bits", packed(new NeighbourBook(1)).sum(), 33 + 0xC0);
        due("7 bits", sevenBits().sum(), 33 + 0xAE);
        due("8 bits: no byte of 0s behind", eightBits().sum(), 33 + 0xFF);
        due("9 bits", nineBits().sum(), (33 + 0xAF) * 33 + 0x80);
    }

    @Says("Promise 21: h = 1, then h = 33 h + byte for each. [beyond a long]")
    void sumWrapsAround() {
        BigInteger h = BigInteger.ONE;
        int beyond = 0;
        for (int bytes = 1; bytes <= 12; bytes++) {
            h = hash(h, 255);
            NeighbourBook x = packed(new NeighbourBook(4 * bytes));
            due(bytes + " bytes of 1s", x.sum(), h.longValue());
            beyond += h.bitLength() > 63 ? 1 : 0;
        }
        due("those beyond a long: the last alone", beyond, 1);
        due("which is below 0 then", h.longValue() < 0 ? 1 : 0, 1);
    }

    @Says("Promise 21: h = 33 h + byte for each [many times beyond a long]")
    void sumWrapsAroundOften() {
        NeighbourBook x = new NeighbourBook(48);
        x.form(KIND, 9);
        x.form(COUNT, 9);
        x.setting(0, 0);
        due("pack()", x.pack(), 48 * 14);
        // Each row without THINGS: 1 and six 0s, twice.
        StringBuilder bits = new StringBuilder();
        for (int i = 0; i < 96; i++) {
            bits.append("1000000");
        }
        BigInteger h = BigInteger.ONE;
        for (int i = 0; i < bits.length(); i += 8) {
            h = hash(h, Integer.parseInt(bits.substring(i, i + 8), 2));
        }
        due("sum()", x.sum(), h.longValue());
        x.alter(83, 255);
        int last = Integer.parseInt(bits.substring(664, 672), 2);
        due("sum(), the last byte turned", x.sum(), h.longValue() - last + (255 - last));
    }

    @Says("Promise 21: STATE: no BOOK.")
    void sumWithoutBook() {
        refused("sum()", Edges::fourAlike, NeighbourBook::sum, STATE);
        NeighbourBook x = nineBits();
        x.renumber(1);
        due("renumbered", x.sum(), STATE);
    }

    // ---- promise 22

    @Says("Promise 22: Bits of byte i of THE BOOK are turned (mask 1 .. 255): what it is then. [the least and the greatest mask]")
    void alterLeastAndGreatestMask() {
        NeighbourBook x = sevenBits();
        due("alter(0, 1)", x.alter(0, 1), 0xAF);
        due("alter(0, 1) again", x.alter(0, 1), 0xAE);
        due("alter(0, 255)", x.alter(0, 255), 0x51);
        due("alter(0, 255) again", x.alter(0, 255), 0xAE);
        due("alter(0, 128): the first bit", x.alter(0, 128), 0x2E);
        due("bit(0)", x.bit(0), 0);
        due("alter(0, 2): the last bit", x.alter(0, 2), 0x2C);
        due("bit(6)", x.bit(6), 0);
        due("bit(7): none there", x.bit(7), NONE);
    }

    @Says("Promise 22: byte i of THE BOOK [the first and the last]")
    void alterFirstAndLastByte() {
        NeighbourBook x = nineBits();
        due("alter(0, 128)", x.alter(0, 128), 0x2F);
        due("alter(1, 128)", x.alter(1, 128), 0);
        due("alter(1, 1): behind the last bit", x.alter(1, 1), 1);
        due("sum()", x.sum(), (33 + 0x2F) * 33 + 1);
        NeighbourBook y = packed(new NeighbourBook(48));
        due("alter(11, 1) of 12 bytes", y.alter(11, 1), 254);
        due("bit(95)", y.bit(95), 0);
    }

    @Says("Promise 22: BAD: i")
    void alterBadByte() {
        due("a 2nd of 7 bits", sevenBits().alter(1, 1), BAD);
        due("a 2nd of 8 bits", eightBits().alter(1, 1), BAD);
        due("a 3rd of 9 bits", nineBits().alter(2, 1), BAD);
        for (int i : new int[] {LEAST, -1, 2, 3, 48, 1 << 28, 1 << 29, MOST}) {
            refused("alter(" + i + ", 1)", EdgesOfBitsTest::nineBits, x -> x.alter(i, 1), BAD);
        }
    }

    @Says("Promise 22: BAD: ... the mask")
    void alterBadMask() {
        for (int mask : new int[] {LEAST, -256, -255, -1, 0, 256, 257, 511, 65535, MOST}) {
            refused("alter(0, " + mask + ")", EdgesOfBitsTest::nineBits, x -> x.alter(0, mask), BAD);
            refused("alter(1, " + mask + ")", EdgesOfBitsTest::nineBits, x -> x.alter(1, mask), BAD);
        }
    }

    @Says("Promise 22: STATE ahead of BAD.")
    void alterStateAheadOfBad() {
        refused("alter(0, 1)", Edges::fourAlike, x -> x.alter(0, 1), STATE);
        refused("alter(-1, 1)", Edges::fourAlike, x -> x.alter(-1, 1), STATE);
        refused("alter(MOST, 1)", Edges::fourAlike, x -> x.alter(MOST, 1), STATE);
        refused("alter(0, 0)", Edges::fourAlike, x -> x.alter(0, 0), STATE);
        refused("alter(0, 256)", Edges::fourAlike, x -> x.alter(0, 256), STATE);
        refused("alter(LEAST, LEAST)", Edges::fourAlike, x -> x.alter(LEAST, LEAST), STATE);
        NeighbourBook x = nineBits();
        x.renumber(0);
        due("renumbered", x.alter(0, 1), STATE);
    }

    @Says("Promise 22: (Nothing else is changed by it, nor asks it, but bit(), sum(), judge().)")
    void alterChangesNothingElse() {
        NeighbourBook x = packed(fourAlike());
        for (int i = 0; i < 4; i++) {
            x.alter(i, 255);
        }
        NeighbourBook y = packed(fourAlike());
        due("sum() asks it", x.sum() != y.sum() ? 1 : 0, 1);
        due("judge() asks it", x.judge(), 0);
        due("bit() asks it", x.bit(0), 1 - y.bit(0));
        // Turned back, or written anew as the last answers are, all is as of the twin.
        for (int i = 0; i < 4; i++) {
            x.alter(i, 255);
        }
        due("turned back: 0", answersOf(x).equals(answersOf(y)) ? 0 : 1, 0);
        otherAnswersWhileAltered();
    }

    private void otherAnswersWhileAltered() {
        NeighbourBook x = packed(fourAlike());
        NeighbourBook y = packed(fourAlike());
        for (int i = 0; i < 4; i++) {
            x.alter(i, 255);
        }
        for (int a = 0; a < 4; a++) {
            for (int what = 0; what < 5; what++) {
                due("told(" + a + ", " + what + ")", x.told(a, what), y.told(a, what));
            }
            for (int b = 0; b < 4; b++) {
                due("has(" + a + ", " + b + ")", x.has(a, b), y.has(a, b));
            }
            due("looked(" + a + ")", x.looked(a), y.looked(a));
            due("next(" + a + ", 1)", x.next(a, 1), y.next(a, 1));
            due("order(2, " + a + ")", x.order(2, a), y.order(2, a));
        }
        for (int use = 0; use < 8; use++) {
            due("would(" + use + ", 2)", x.would(use, 2), y.would(use, 2));
        }
        for (int what = 0; what < 7; what++) {
            due("count(" + what + ")", x.count(what), y.count(what));
        }
        due("place(0)", x.place(0), y.place(0));
        due("best()", x.best(), y.best());
        due("pair(3, 3)", x.pair(3, 3), 1);
        due("count(2)", x.count(2), 1);
        due("drop(3, 3)", x.drop(3, 3), 1);
        due("forms()", x.forms(), y.forms());
    }

    // ---- promise 23

    @Says("Promise 23: Whether the bits are as they were written: NONE")
    void judgeAsWritten() {
        due("7 bits", sevenBits().judge(), NONE);
        due("8 bits", eightBits().judge(), NONE);
        due("48 things", packed(new NeighbourBook(48)).judge(), NONE);
        NeighbourBook x = nineBits();
        x.alter(0, 17);
        x.alter(0, 16);
        x.alter(0, 1);
        due("turned, and turned back", x.judge(), NONE);
        x.pair(1, 1);
        due("PATCHES are no matter", x.judge(), NONE);
        x.form(0, 9);
        x.setting(2, 1);
        due("FORMS told anew are no matter", x.judge(), NONE);
        x.alter(0, 1);
        x.pack();
        due("written anew", x.judge(), NONE);
    }

    @Says("Promise 23: else the first THING whose bits ... are not. [its first and its last bit]")
    void judgeFirstAndLastBit() {
        // The bits of 0 are 0 .. 4, of 1 5 and 6, of 2 7 and 8.
        int[] things = {0, 0, 0, 0, 0, 1, 1, 2, 2};
        for (int i = 0; i < things.length; i++) {
            NeighbourBook x = nineBits();
            x.alter(i / 8, 128 >> i % 8);
            due("bit " + i, x.judge(), things[i]);
        }
        NeighbourBook y = packed(new NeighbourBook(48));
        y.alter(11, 1);
        due("the last bit of 48", y.judge(), 47);
        y.alter(0, 128);
        due("and the first", y.judge(), 0);
    }

    @Says("Promise 23: the first THING [of several]")
    void judgeFirstOfSeveral() {
        NeighbourBook x = nineBits();
        x.alter(1, 255);
        due("2 and the 0s", x.judge(), 2);
        x.alter(0, 2);
        due("1, 2 and the 0s", x.judge(), 1);
        x.alter(0, 8);
        due("all", x.judge(), 0);
        x.alter(0, 10);
        due("2 and the 0s again", x.judge(), 2);
    }

    @Says("Promise 23: (or, n, the 0s behind the last)")
    void judgeBehindTheLast() {
        NeighbourBook x = sevenBits();
        x.alter(0, 1);
        due("one 0 of 7 bits", x.judge(), 2);
        for (int mask = 1; mask <= 64; mask *= 2) {
            NeighbourBook y = nineBits();
            y.alter(1, mask);
            due("mask " + mask + " of 9 bits", y.judge(), 3);
        }
        NeighbourBook z = packed(new NeighbourBook(1));
        z.alter(0, 63);
        due("all six of 2 bits", z.judge(), 1);
        z.alter(0, 64);
        due("and a bit", z.judge(), 0);
        NeighbourBook most = packed(of(48, row(0)));
        due("99 bits", most.count(3), 99);
        most.alter(12, 1);
        due("of 48", most.judge(), 48);
    }

    @Says("Promise 23: STATE: no BOOK.")
    void judgeWithoutBook() {
        refused("judge()", Edges::fourAlike, NeighbourBook::judge, STATE);
        NeighbourBook x = nineBits();
        x.alter(0, 255);
        x.renumber(0);
        due("renumbered", x.judge(), STATE);
        x.pack();
        due("packed again", x.judge(), NONE);
    }
}
