import java.util.Arrays;

/**
 * A neighbour book: who is joined to whom, each row written in few bits by the cheapest of five
 * tellings. README.md says how to use it; the words in capitals are those of the document.
 */
public final class NeighbourBook {
    public static final int NONE = -1, BAD = -2, STATE = -3, FULL = -4;

    private static final int MOST_THINGS = 48;
    private static final int MOST_PATCHES = 40;
    private static final int MOST_CHAIN = 5;
    private static final int MOST_NUMBER = 100000;

    private static final int USES = 8;
    private static final int USE_KIND = 0;
    private static final int USE_COUNT = 1;
    private static final int USE_FIRST = 2;
    private static final int USE_GAP = 3;
    private static final int USE_BACK = 4;
    private static final int USE_BLOCK = 5;
    private static final int USE_BEGIN = 6;
    private static final int USE_LENGTH = 7;
    /** No USE of the document: a bit that stands for itself, whatever the FORMS are. */
    private static final int USE_BARE = 8;

    private static final int FORMS = 10;
    private static final int UNARY = 0;
    private static final int DOUBLED = 1;
    private static final int TWICE = 2;
    private static final int STEPPED = 3;

    private static final int KINDS = 5;
    private static final int PLAIN = 0;
    private static final int SPANS = 1;
    private static final int COPIED = 2;
    private static final int SAME = 3;
    private static final int DENSE = 4;
    /** More bits than any TELLING has, so that what cannot be told is never the cheapest. */
    private static final int CANNOT_TELL = 1000000;

    private static final int WINDOW = 0;
    private static final int CHAIN = 1;
    private static final int STEP = 2;

    private static final int ORDERS = 3;
    private static final int BY_SIZE = 0;
    private static final int BY_LAYERS = 1;

    private final Pairs pairs;
    private final Rules rules;
    private final Telling telling;
    private final Book book;
    private final Copying copying;
    private final Orders orders;
    private final Walks walks;

    public NeighbourBook(int n) {
        int things = Math.max(1, Math.min(MOST_THINGS, n));
        pairs = new Pairs(things);
        rules = new Rules();
        telling = new Telling();
        book = new Book(things);
        copying = new Copying(things);
        orders = new Orders(things);
        walks = new Walks(things);
    }

    // ---- pairs

    public int pair(int a, int b) {
        return change(a, b, true);
    }

    public int drop(int a, int b) {
        return change(a, b, false);
    }

    public int has(int a, int b) {
        if (!pairs.isThing(a) || !pairs.isThing(b)) {
            return BAD;
        }
        return pairs.joined(a, b) ? 1 : 0;
    }

    public int next(int a, int b) {
        if (!pairs.isThing(a) || b < 0) {
            return BAD;
        }
        return firstFrom(pairs.rowOf(a), b);
    }

    public int degree(int a, int way) {
        if (!pairs.isThing(a) || !isBelow(way, 2)) {
            return BAD;
        }
        return Long.bitCount(way == 0 ? pairs.rowOf(a) : pairs.columnOf(a));
    }

    public int meet(int a, int b) {
        if (!pairs.isThing(a) || !pairs.isThing(b)) {
            return BAD;
        }
        return Long.bitCount(pairs.rowOf(a) & pairs.rowOf(b));
    }

    public int back(int a, int k) {
        if (!pairs.isThing(a)) {
            return BAD;
        }
        return thingAt(pairs.columnOf(a), k);
    }

    // ---- packing

    public int form(int use, int form) {
        if (!isBelow(use, USES) || !isBelow(form, FORMS)) {
            return BAD;
        }
        int was = rules.formOf(use);
        rules.setForm(use, form);
        return was;
    }

    public int setting(int what, int v) {
        if (!rules.allows(what, v)) {
            return BAD;
        }
        int was = rules.valueOf(what);
        rules.setValue(what, v);
        return was;
    }

    public int length(int form, int v) {
        if (!isBelow(form, FORMS) || v < 0 || v > MOST_NUMBER) {
            return BAD;
        }
        return bitsIn(form, v);
    }

    public int cost(int a, int kind, int k) {
        if (!pairs.isThing(a) || !isBelow(kind, KINDS)) {
            return BAD;
        }
        if (isCopy(kind) && (k < 1 || k > a)) {
            return BAD;
        }
        int bits = telling.bitsToTell(pairs, a, kind, k, rules);
        return bits == CANNOT_TELL ? STATE : bits;
    }

    public int pack() {
        book.decideAll(pairs, rules, telling);
        return book.writeAnew(rules, telling);
    }

    public int told(int a, int what) {
        if (!pairs.isThing(a) || !isBelow(what, 5)) {
            return BAD;
        }
        if (!book.isThere()) {
            return STATE;
        }
        switch (what) {
            case 0:
                return book.kindOf(a);
            case 1:
                return book.distanceOf(a);
            case 2:
                return book.depthOf(a);
            case 3:
                return book.startOf(a);
            default:
                return book.startOf(a + 1) - book.startOf(a);
        }
    }

    public int looked(int a) {
        if (!pairs.isThing(a)) {
            return BAD;
        }
        return book.isThere() ? book.bitsToRead(a) : STATE;
    }

    public int would(int use, int form) {
        if (!isBelow(use, USES) || !isBelow(form, FORMS)) {
            return BAD;
        }
        return book.isThere() ? book.bitsOfUse(use, form) : STATE;
    }

    public int forms() {
        if (!book.isThere() || book.patchesTo(pairs) > 0) {
            return STATE;
        }
        for (int use = 0; use < USES; use++) {
            rules.setForm(use, book.cheapestForm(use));
        }
        return book.writeAnew(rules, telling);
    }

    public int best() {
        return copying.leastSum(pairs, rules, telling);
    }

    // ---- bits

    public int bit(int i) {
        return book.isThere() ? book.bits().bitNow(i) : NONE;
    }

    public int place(int i) {
        if (!isBelow(i, book.placeCount())) {
            return NONE;
        }
        return book.placeStart(i);
    }

    public long sum() {
        return book.isThere() ? book.bits().hash() : STATE;
    }

    public int alter(int i, int mask) {
        if (!book.isThere()) {
            return STATE;
        }
        if (!isBelow(i, book.bits().byteCount()) || mask < 1 || mask > 255) {
            return BAD;
        }
        return book.bits().turn(i, mask);
    }

    public int judge() {
        return book.isThere() ? book.firstSpoiled() : STATE;
    }

    // ---- orders, walks

    public int order(int order, int i) {
        if (!isBelow(order, ORDERS)) {
            return BAD;
        }
        if (!pairs.isThing(i)) {
            return NONE;
        }
        orders.arrange(order, pairs);
        return orders.thingAtPlace(i);
    }

    public int renumber(int order) {
        if (!isBelow(order, ORDERS)) {
            return BAD;
        }
        orders.arrange(order, pairs);
        pairs.renumberBy(orders);
        book.forget();
        return pairs.countToLesser();
    }

    public int threes() {
        return walks.countThrees(pairs);
    }

    public int parts(int a) {
        if (a != NONE && !pairs.isThing(a)) {
            return BAD;
        }
        return a == NONE ? walks.countParts(pairs) : walks.sizeOfPart(pairs, a);
    }

    public int far(int a, int b) {
        if (!pairs.isThing(a) || !pairs.isThing(b)) {
            return BAD;
        }
        return walks.stepsBetween(pairs, a, b);
    }

    public int count(int what) {
        switch (what) {
            case 0:
                return pairs.things();
            case 1:
                return pairs.countAll();
            case 2:
                return book.patchesTo(pairs);
            case 3:
                return book.isThere() ? book.bits().size() : 0;
            case 4:
                return book.placeCount();
            case 5:
                return book.copiedRows();
            case 6:
                return book.greatestDepth();
            default:
                return BAD;
        }
    }

    // ---- helpers

    private int change(int a, int b, boolean comes) {
        if (!pairs.isThing(a) || !pairs.isThing(b)) {
            return BAD;
        }
        if (pairs.joined(a, b) == comes) {
            return 0;
        }
        // A PAIR that is a PATCH already is one no more when it changes back, so it always may.
        boolean adds = book.isThere() && !book.isPatch(pairs, a, b);
        if (adds && book.patchesTo(pairs) >= MOST_PATCHES) {
            return FULL;
        }
        pairs.flip(a, b);
        return 1;
    }

    private static boolean isBelow(int v, int limit) {
        return v >= 0 && v < limit;
    }

    private static boolean isCopy(int kind) {
        return kind == COPIED || kind == SAME;
    }

    private static int element(int[] list, int i) {
        return i >= 0 && i < list.length ? list[i] : 0;
    }

    private static boolean isIn(long row, int b) {
        return b >= 0 && b < MOST_THINGS && ((row >>> b) & 1L) != 0L;
    }

    /** The first THING of a row that is b or more. */
    private static int firstFrom(long row, int b) {
        for (int i = Math.max(0, b); i < MOST_THINGS; i++) {
            if (((row >>> i) & 1L) != 0L) {
                return i;
            }
        }
        return NONE;
    }

    private static int lastOf(long row) {
        for (int i = MOST_THINGS - 1; i >= 0; i--) {
            if (((row >>> i) & 1L) != 0L) {
                return i;
            }
        }
        return NONE;
    }

    private static int thingAt(long row, int k) {
        int ahead = 0;
        for (int i = 0; i < MOST_THINGS; i++) {
            if (isIn(row, i)) {
                if (ahead == k) {
                    return i;
                }
                ahead++;
            }
        }
        return NONE;
    }

    private static int folded(int v) {
        return v < 0 ? -2 * v - 1 : 2 * v;
    }

    /** How many binary digits a number of 1 or more has, from its highest 1 on. */
    private static int digitsOf(int v) {
        int digits = 1;
        while (digits < 31 && (v >> digits) > 0) {
            digits++;
        }
        return digits;
    }

    private static int bitsIn(int form, int v) {
        switch (form) {
            case UNARY:
                return v + 1;
            case DOUBLED:
                return 2 * digitsOf(v + 1) - 1;
            case TWICE:
                int rest = digitsOf(v + 1) - 1;
                return 2 * digitsOf(rest + 1) - 1 + rest;
            default:
                int k = form - STEPPED;
                return (v >> k) + 1 + k;
        }
    }

    /** Which PAIRS there are: for each THING its ROW, bit b for the THING b. */
    private static final class Pairs {
        private final long[] rows;
        private final long[] renumbered;

        Pairs(int things) {
            rows = new long[things];
            renumbered = new long[things];
        }

        int things() {
            return rows.length;
        }

        boolean isThing(int a) {
            return a >= 0 && a < rows.length;
        }

        long rowOf(int a) {
            return a >= 0 && a < rows.length ? rows[a] : 0L;
        }

        long columnOf(int b) {
            long column = 0L;
            for (int a = 0; a < rows.length; a++) {
                if (isIn(rows[a], b)) {
                    column |= 1L << a;
                }
            }
            return column;
        }

        boolean joined(int a, int b) {
            return isIn(rowOf(a), b);
        }

        void flip(int a, int b) {
            if (isThing(a) && isThing(b)) {
                rows[a] ^= 1L << b;
            }
        }

        void takeAllOf(Pairs other) {
            for (int a = 0; a < rows.length; a++) {
                rows[a] = other.rowOf(a);
            }
        }

        int countAll() {
            int all = 0;
            for (int a = 0; a < rows.length; a++) {
                all += Long.bitCount(rows[a]);
            }
            return all;
        }

        int countToLesser() {
            int lesser = 0;
            for (int a = 0; a < rows.length; a++) {
                lesser += Long.bitCount(rows[a] & ((1L << a) - 1L));
            }
            return lesser;
        }

        int countOther(Pairs other) {
            int differing = 0;
            for (int a = 0; a < rows.length; a++) {
                differing += Long.bitCount(rows[a] ^ other.rowOf(a));
            }
            return differing;
        }

        void renumberBy(Orders orders) {
            for (int i = 0; i < renumbered.length; i++) {
                long was = rowOf(orders.thingAtPlace(i));
                long row = 0L;
                for (int j = 0; j < renumbered.length; j++) {
                    if (isIn(was, orders.thingAtPlace(j))) {
                        row |= 1L << j;
                    }
                }
                renumbered[i] = row;
            }
            for (int i = 0; i < rows.length && i < renumbered.length; i++) {
                rows[i] = renumbered[i];
            }
        }
    }

    /** The FORMS of the USES, and w, r and s, as they are told for what is packed next. */
    private static final class Rules {
        private static final int[] LEAST = {0, 0, 1};
        private static final int[] MOST = {7, 5, 9};

        private final int[] formsOfUses = {1, 1, 1, 1, 1, 1, 1, 1};
        private final int[] values = {3, 2, 4};

        int formOf(int use) {
            return element(formsOfUses, use);
        }

        void setForm(int use, int form) {
            if (use >= 0 && use < formsOfUses.length) {
                formsOfUses[use] = form;
            }
        }

        boolean allows(int what, int v) {
            return isBelow(what, values.length) && v >= element(LEAST, what) && v <= element(MOST, what);
        }

        int valueOf(int what) {
            return element(values, what);
        }

        void setValue(int what, int v) {
            if (what >= 0 && what < values.length) {
                values[what] = v;
            }
        }
    }

    /** The numbers of one TELLING, each with its USE, in the order in which they are written. */
    private static final class Telling {
        /** The longest TELLING (COPIED) has at most 48 BLOCKS, 12 SPANS, 48 THINGS and 5 numbers. */
        private static final int MOST_NUMBERS = 160;

        private final int[] uses = new int[MOST_NUMBERS];
        private final int[] numbers = new int[MOST_NUMBERS];
        private int size = 0;

        int size() {
            return size;
        }

        int useAt(int i) {
            return element(uses, i);
        }

        int numberAt(int i) {
            return element(numbers, i);
        }

        /** Whether x's ROW can be told by this KIND; if so, the numbers are here then. */
        boolean tell(Pairs pairs, int x, int kind, int k) {
            long row = pairs.rowOf(x);
            size = 0;
            add(USE_KIND, kind);
            switch (kind) {
                case PLAIN:
                    tellPlain(x, row);
                    return true;
                case SPANS:
                    tellPlain(x, tellSpans(x, row));
                    return true;
                case COPIED:
                    long ahead = pairs.rowOf(x - k);
                    add(USE_BACK, k - 1);
                    tellBlocks(row, ahead);
                    tellPlain(x, tellSpans(x, row & ~ahead));
                    return true;
                case SAME:
                    add(USE_BACK, k - 1);
                    return row == pairs.rowOf(x - k);
                case DENSE:
                    tellDense(x, row);
                    return row != 0L;
                default:
                    return false;
            }
        }

        int bitsToTell(Pairs pairs, int x, int kind, int k, Rules rules) {
            if (!tell(pairs, x, kind, k)) {
                return CANNOT_TELL;
            }
            int bits = 0;
            for (int i = 0; i < size; i++) {
                int use = useAt(i);
                bits += use == USE_BARE ? 1 : bitsIn(rules.formOf(use), numberAt(i));
            }
            return bits;
        }

        private void add(int use, int number) {
            if (size >= 0 && size < uses.length && size < numbers.length) {
                uses[size] = use;
                numbers[size] = number;
                size++;
            }
        }

        private void tellPlain(int x, long row) {
            add(USE_COUNT, Long.bitCount(row));
            int ahead = NONE;
            for (int b = 0; b < MOST_THINGS; b++) {
                if (isIn(row, b)) {
                    if (ahead == NONE) {
                        add(USE_FIRST, folded(b - x));
                    } else {
                        add(USE_GAP, b - ahead - 1);
                    }
                    ahead = b;
                }
            }
        }

        /** Tells the SPANS alone and answers the THINGS that are in none. */
        private long tellSpans(int x, long row) {
            // A THING is in a SPAN just where it is, or stands beside, the middle of three.
            long middles = row & (row << 1) & (row >>> 1);
            long spans = middles | (middles << 1) | (middles >>> 1);
            long begins = spans & ~(spans << 1);
            long ends = spans & ~(spans >>> 1);
            add(USE_COUNT, Long.bitCount(begins));
            int begin = 0;
            int end = NONE;
            for (int b = 0; b < MOST_THINGS; b++) {
                if (isIn(begins, b)) {
                    if (end == NONE) {
                        add(USE_BEGIN, folded(b - x));
                    } else {
                        add(USE_GAP, b - end - 2);
                    }
                    begin = b;
                }
                if (isIn(ends, b)) {
                    add(USE_LENGTH, b - begin + 1 - 3);
                    end = b;
                }
            }
            return row & ~spans;
        }

        private void tellBlocks(long row, long ahead) {
            int head = size;
            add(USE_COUNT, 0);
            boolean shared = true;
            int block = 0;
            int ended = 0;
            for (int b = 0; b < MOST_THINGS; b++) {
                if (isIn(ahead, b)) {
                    if (isIn(row, b) == shared) {
                        block++;
                    } else {
                        add(USE_BLOCK, ended == 0 ? block : block - 1);
                        ended++;
                        shared = !shared;
                        block = 1;
                    }
                }
            }
            // The last BLOCK is not told, so those that have ended are as many as COUNT wants.
            if (head >= 0 && head < numbers.length) {
                numbers[head] = ended;
            }
        }

        private void tellDense(int x, long row) {
            int first = firstFrom(row, 0);
            int last = lastOf(row);
            add(USE_FIRST, folded(first - x));
            add(USE_COUNT, last - first);
            for (int b = first + 1; b < last; b++) {
                add(USE_BARE, isIn(row, b) ? 1 : 0);
            }
        }
    }

    /** Bits one behind the other, as they were written and as they are now. */
    private static final class Bits {
        private final int[] written;
        private final int[] now;
        private int size = 0;

        Bits(int mostBytes) {
            int room = Math.max(0, mostBytes);
            written = new int[room];
            now = new int[room];
        }

        int size() {
            return size;
        }

        int byteCount() {
            return (size + 7) >> 3;
        }

        void clear() {
            Arrays.fill(written, 0);
            Arrays.fill(now, 0);
            size = 0;
        }

        void write(Telling telling, Rules rules) {
            for (int i = 0; i < telling.size(); i++) {
                int use = telling.useAt(i);
                if (use == USE_BARE) {
                    put(telling.numberAt(i));
                } else {
                    putNumber(rules.formOf(use), telling.numberAt(i));
                }
            }
        }

        int bitNow(int i) {
            return isBelow(i, size) ? bitOf(now, i) : NONE;
        }

        long hash() {
            long h = 1L;
            for (int i = 0; i < byteCount(); i++) {
                h = 33L * h + element(now, i);
            }
            return h;
        }

        int turn(int i, int mask) {
            if (i >= 0 && i < now.length) {
                now[i] ^= mask;
            }
            return element(now, i);
        }

        int firstTurned() {
            for (int i = 0; i < 8 * byteCount(); i++) {
                if (bitOf(written, i) != bitOf(now, i)) {
                    return i;
                }
            }
            return NONE;
        }

        private static int bitOf(int[] bytes, int i) {
            return (element(bytes, i >> 3) >> (7 - (i & 7))) & 1;
        }

        private void putNumber(int form, int v) {
            switch (form) {
                case UNARY:
                    putUnary(v);
                    break;
                case DOUBLED:
                    putDoubled(v);
                    break;
                case TWICE:
                    int rest = digitsOf(v + 1) - 1;
                    putDoubled(rest);
                    putLowest(v + 1, rest);
                    break;
                default:
                    int k = form - STEPPED;
                    putUnary(v >> k);
                    putLowest(v, k);
                    break;
            }
        }

        private void putUnary(int v) {
            for (int i = 0; i < v; i++) {
                put(0);
            }
            put(1);
        }

        private void putDoubled(int v) {
            int digits = digitsOf(v + 1);
            for (int i = 1; i < digits; i++) {
                put(0);
            }
            putLowest(v + 1, digits);
        }

        private void putLowest(int v, int digits) {
            for (int i = digits - 1; i >= 0; i--) {
                put((v >> i) & 1);
            }
        }

        private void put(int bit) {
            int at = size >> 3;
            if (at >= 0 && at < written.length && at < now.length) {
                int turned = bit << (7 - (size & 7));
                written[at] |= turned;
                now[at] |= turned;
                size++;
            }
        }
    }

    /** THE BOOK: the PAIRS as they were packed, how each ROW is told, and the bits. */
    private static final class Book {
        /**
         * The cheapest TELLING has no more bits than PLAIN, and that has by any FORMS at most 480:
         * KIND 7, COUNT 49, FIRST 95, and 47 GAPS of 7.
         */
        private static final int MOST_BYTES_OF_ROW = 64;
        /** FIRST and BEGIN have the greatest numbers: 47 FOLDED is 94. */
        private static final int NUMBERS_OF_USE = 96;

        private final Pairs packed;
        private final Bits bits;
        private final int[] kinds;
        private final int[] distances;
        private final int[] depths;
        private final int[] starts;
        /** How often each number stands in THE BOOK, by USES. */
        private final int[] tally = new int[USES * NUMBERS_OF_USE];
        private boolean there = false;
        private int step = 1;

        Book(int things) {
            packed = new Pairs(things);
            bits = new Bits(things * MOST_BYTES_OF_ROW);
            kinds = new int[things];
            distances = new int[things];
            depths = new int[things];
            starts = new int[things + 1];
        }

        boolean isThere() {
            return there;
        }

        void forget() {
            there = false;
        }

        Bits bits() {
            return bits;
        }

        int kindOf(int x) {
            return element(kinds, x);
        }

        int distanceOf(int x) {
            return element(distances, x);
        }

        int depthOf(int x) {
            return element(depths, x);
        }

        /** Where the bits of x begin; of n, where all bits end. */
        int startOf(int x) {
            return element(starts, x);
        }

        boolean isPatch(Pairs pairs, int a, int b) {
            return there && pairs.joined(a, b) != packed.joined(a, b);
        }

        int patchesTo(Pairs pairs) {
            return there ? packed.countOther(pairs) : 0;
        }

        /** How each ROW is told from now on; the bits have to be written then. */
        void decideAll(Pairs pairs, Rules rules, Telling telling) {
            packed.takeAllOf(pairs);
            step = Math.max(1, rules.valueOf(STEP));
            Arrays.fill(tally, 0);
            for (int x = 0; x < kinds.length; x++) {
                choose(x, rules, telling);
                telling.tell(packed, x, kindOf(x), distanceOf(x));
                tallyNumbers(telling);
            }
            there = true;
        }

        int writeAnew(Rules rules, Telling telling) {
            bits.clear();
            for (int x = 0; x < kinds.length && x + 1 < starts.length; x++) {
                starts[x] = bits.size();
                telling.tell(packed, x, kindOf(x), distanceOf(x));
                bits.write(telling, rules);
                starts[x + 1] = bits.size();
            }
            return bits.size();
        }

        int bitsOfUse(int use, int form) {
            int sum = 0;
            for (int v = 0; v < NUMBERS_OF_USE; v++) {
                sum += element(tally, use * NUMBERS_OF_USE + v) * bitsIn(form, v);
            }
            return sum;
        }

        int cheapestForm(int use) {
            int cheapest = 0;
            for (int form = 1; form < FORMS; form++) {
                if (bitsOfUse(use, form) < bitsOfUse(use, cheapest)) {
                    cheapest = form;
                }
            }
            return cheapest;
        }

        int bitsToRead(int a) {
            int looked = 0;
            int x = a;
            for (int hops = 0; hops <= MOST_CHAIN; hops++) {
                looked += startOf(x + 1) - startOf(x - Math.floorMod(x, Math.max(1, step)));
                if (!isCopy(kindOf(x))) {
                    break;
                }
                x -= distanceOf(x);
            }
            return looked;
        }

        int placeCount() {
            return there ? (kinds.length + step - 1) / Math.max(1, step) : 0;
        }

        int placeStart(int i) {
            return startOf(i * step);
        }

        int firstSpoiled() {
            int turned = bits.firstTurned();
            if (turned == NONE) {
                return NONE;
            }
            for (int x = 0; x < kinds.length; x++) {
                if (turned < startOf(x + 1)) {
                    return x;
                }
            }
            return kinds.length;
        }

        int copiedRows() {
            int copied = 0;
            for (int x = 0; there && x < kinds.length; x++) {
                if (isCopy(kinds[x])) {
                    copied++;
                }
            }
            return copied;
        }

        int greatestDepth() {
            int greatest = 0;
            for (int x = 0; there && x < depths.length; x++) {
                greatest = Math.max(greatest, depths[x]);
            }
            return greatest;
        }

        private void choose(int x, Rules rules, Telling telling) {
            int farthest = Math.min(rules.valueOf(WINDOW), x);
            int least = CANNOT_TELL;
            // From the lesser KIND and k on, so that of several the first one stays.
            for (int kind = 0; kind < KINDS; kind++) {
                int from = isCopy(kind) ? 1 : 0;
                int to = isCopy(kind) ? farthest : 0;
                for (int k = from; k <= to; k++) {
                    if (isCopy(kind) && depthOf(x - k) >= rules.valueOf(CHAIN)) {
                        continue;
                    }
                    int bits = telling.bitsToTell(packed, x, kind, k, rules);
                    if (bits < least) {
                        least = bits;
                        decide(x, kind, k);
                    }
                }
            }
        }

        private void decide(int x, int kind, int k) {
            if (x >= 0 && x < kinds.length && x < distances.length && x < depths.length) {
                kinds[x] = kind;
                distances[x] = k;
                depths[x] = isCopy(kind) ? depthOf(x - k) + 1 : 0;
            }
        }

        private void tallyNumbers(Telling telling) {
            for (int i = 0; i < telling.size(); i++) {
                int at = telling.useAt(i) * NUMBERS_OF_USE + telling.numberAt(i);
                if (telling.useAt(i) != USE_BARE && at >= 0 && at < tally.length) {
                    tally[at]++;
                }
            }
        }
    }

    /** The best copying over the trees that arise if each ROW has one ROW alone to copy from. */
    private static final class Copying {
        private static final int DEPTHS = MOST_CHAIN + 1;

        private final int things;
        /** By ROW and DEPTH: the least sum of all ROWS that hang below it. */
        private final int[] below;
        private int copyBits = 0;
        private int copyDistance = 0;

        Copying(int things) {
            this.things = things;
            below = new int[things * DEPTHS];
        }

        int leastSum(Pairs pairs, Rules rules, Telling telling) {
            Arrays.fill(below, 0);
            int chain = rules.valueOf(CHAIN);
            int sum = 0;
            // Those that copy stand behind what they copy from, so from the last on all below is known.
            for (int x = things - 1; x >= 0; x--) {
                int alone = bitsAlone(pairs, x, rules, telling) + belowOf(x, 0);
                findCopy(pairs, x, rules, telling);
                if (copyDistance == 0) {
                    sum += alone;
                } else {
                    hang(x, alone, chain);
                }
            }
            return sum;
        }

        private void hang(int x, int alone, int chain) {
            for (int depth = 0; depth <= chain && depth < DEPTHS; depth++) {
                int least = alone;
                if (depth < chain) {
                    least = Math.min(alone, copyBits + belowOf(x, depth + 1));
                }
                int at = (x - copyDistance) * DEPTHS + depth;
                if (at >= 0 && at < below.length) {
                    below[at] += least;
                }
            }
        }

        private int belowOf(int x, int depth) {
            return element(below, x * DEPTHS + depth);
        }

        private static int bitsAlone(Pairs pairs, int x, Rules rules, Telling telling) {
            int least = CANNOT_TELL;
            for (int kind = 0; kind < KINDS; kind++) {
                if (!isCopy(kind)) {
                    least = Math.min(least, telling.bitsToTell(pairs, x, kind, 0, rules));
                }
            }
            return least;
        }

        private void findCopy(Pairs pairs, int x, Rules rules, Telling telling) {
            copyBits = CANNOT_TELL;
            copyDistance = 0;
            int farthest = Math.min(rules.valueOf(WINDOW), x);
            for (int k = 1; k <= farthest; k++) {
                for (int kind = COPIED; kind <= SAME; kind++) {
                    int bits = telling.bitsToTell(pairs, x, kind, k, rules);
                    if (bits < copyBits) {
                        copyBits = bits;
                        copyDistance = k;
                    }
                }
            }
        }
    }

    /** The ORDERS: one row of all THINGS, laid anew each time. */
    private static final class Orders {
        private static final int KEY_WITHOUT = 1024;

        private final int[] line;
        private final int[] keys;

        Orders(int things) {
            line = new int[things];
            keys = new int[things];
        }

        int thingAtPlace(int i) {
            return element(line, i);
        }

        void arrange(int order, Pairs pairs) {
            if (order == BY_LAYERS) {
                layLayers(pairs);
                return;
            }
            for (int x = 0; x < keys.length; x++) {
                long row = pairs.rowOf(x);
                keys[x] = order == BY_SIZE ? -Long.bitCount(row) : leastKey(row);
            }
            layByKeys();
        }

        private static int leastKey(long row) {
            int least = KEY_WITHOUT;
            for (int b = 0; b < MOST_THINGS; b++) {
                if (isIn(row, b)) {
                    least = Math.min(least, ((b * 40503) & 65535) >> 6);
                }
            }
            return least;
        }

        private void layByKeys() {
            for (int x = 0; x < line.length; x++) {
                int at = x;
                while (at > 0 && at < line.length && element(keys, line[at - 1]) > element(keys, x)) {
                    line[at] = line[at - 1];
                    at--;
                }
                line[at] = x;
            }
        }

        private void layLayers(Pairs pairs) {
            long there = 0L;
            int laid = 0;
            for (int i = 0; i < line.length; i++) {
                // Where all that was laid has been followed, it goes on with the least one not there.
                if (i == laid) {
                    line[i] = firstFrom(~there, 0);
                    there |= 1L << line[i];
                    laid++;
                }
                long come = pairs.rowOf(line[i]) & ~there;
                for (int b = 0; b < MOST_THINGS && laid < line.length; b++) {
                    if (isIn(come, b)) {
                        line[laid] = b;
                        laid++;
                    }
                }
                there |= come;
            }
        }
    }

    /** Walks over the PAIRS, and those that hang together. */
    private static final class Walks {
        /** For each THING those to which it is joined by a PAIR, either way, without itself. */
        private final long[] near;

        Walks(int things) {
            near = new long[things];
        }

        int countThrees(Pairs pairs) {
            findNear(pairs);
            int threes = 0;
            for (int a = 0; a < near.length; a++) {
                for (int b = a + 1; b < near.length; b++) {
                    if (isIn(near[a], b)) {
                        long behind = (-1L << b) << 1;
                        threes += Long.bitCount(near[a] & near[b] & behind);
                    }
                }
            }
            return threes;
        }

        int countParts(Pairs pairs) {
            findNear(pairs);
            long seen = 0L;
            int parts = 0;
            for (int a = 0; a < near.length; a++) {
                if (!isIn(seen, a)) {
                    seen |= partOf(a);
                    parts++;
                }
            }
            return parts;
        }

        int sizeOfPart(Pairs pairs, int a) {
            findNear(pairs);
            return Long.bitCount(partOf(a));
        }

        int stepsBetween(Pairs pairs, int a, int b) {
            long reached = 1L << a;
            for (int steps = 0; steps < pairs.things(); steps++) {
                if (isIn(reached, b)) {
                    return steps;
                }
                long grown = reached;
                for (int x = 0; x < pairs.things(); x++) {
                    if (isIn(reached, x)) {
                        grown |= pairs.rowOf(x);
                    }
                }
                reached = grown;
            }
            return NONE;
        }

        private void findNear(Pairs pairs) {
            for (int a = 0; a < near.length; a++) {
                near[a] = (pairs.rowOf(a) | pairs.columnOf(a)) & ~(1L << a);
            }
        }

        private long partOf(int a) {
            long part = 1L << a;
            for (int round = 0; round < near.length; round++) {
                long grown = part;
                for (int x = 0; x < near.length; x++) {
                    if (isIn(part, x)) {
                        grown |= near[x];
                    }
                }
                if (grown == part) {
                    break;
                }
                part = grown;
            }
            return part;
        }
    }
}
