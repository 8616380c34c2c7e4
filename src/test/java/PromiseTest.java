/** Each promise of the document in turn, with answers worked out by hand from its words. */
public final class PromiseTest {
    private static final int NONE = -1, BAD = -2, STATE = -3, FULL = -4;
    private static final int LEAST = Integer.MIN_VALUE, MOST = Integer.MAX_VALUE;

    private final Checks checks = new Checks();
    private String promise = "";

    public static void main(String[] args) {
        PromiseTest test = new PromiseTest();
        test.newObject();
        test.pair();
        test.drop();
        test.patches();
        test.has();
        test.next();
        test.degree();
        test.meet();
        test.back();
        test.form();
        test.setting();
        test.length();
        test.cost();
        test.costByForms();
        test.pack();
        test.packTies();
        test.told();
        test.looked();
        test.would();
        test.forms();
        test.formsKeepTellings();
        test.best();
        test.bit();
        test.place();
        test.sum();
        test.alter();
        test.judge();
        test.order();
        test.renumber();
        test.threes();
        test.parts();
        test.far();
        test.count();
        test.checks.end();
    }

    private void due(String call, long got, long want) {
        checks.due("promise " + promise + ": " + call, got, want);
    }

    /** The things 0 .. n - 1, the first of them with these rows. */
    private static NeighbourBook of(int n, int[]... rows) {
        NeighbourBook x = new NeighbourBook(n);
        for (int a = 0; a < rows.length; a++) {
            for (int b : rows[a]) {
                x.pair(a, b);
            }
        }
        return x;
    }

    private static int[] row(int... things) {
        return things;
    }

    /** Four rows {0, 2}; alone they have 8, 10, 12, 12 bits, copied by SAME 6 (k = 1) or 8 (k = 2, 3). */
    private static NeighbourBook fourAlike() {
        return of(4, row(0, 2), row(0, 2), row(0, 2), row(0, 2));
    }

    /** Packed 1 010 1 and 1 1. */
    private static NeighbourBook sevenBits() {
        NeighbourBook x = of(2, row(0));
        x.pack();
        return x;
    }

    private void newObject() {
        promise = "1";
        int[][] sizes = {{LEAST, 1}, {-1, 1}, {0, 1}, {1, 1}, {2, 2}, {47, 47}, {48, 48}, {49, 48}, {MOST, 48}};
        for (int[] size : sizes) {
            NeighbourBook x = new NeighbourBook(size[0]);
            due("count(0) of " + size[0], x.count(0), size[1]);
            due("count(1) of " + size[0], x.count(1), 0);
            due("count(3) of " + size[0], x.count(3), 0);
            due("has(last, last) of " + size[0], x.has(size[1] - 1, size[1] - 1), 0);
            due("has(0, n) of " + size[0], x.has(0, size[1]), BAD);
            due("told(0, 0) of " + size[0], x.told(0, 0), STATE);
        }
        NeighbourBook x = new NeighbourBook(5);
        for (int use = 0; use < 8; use++) {
            due("the form of " + use + " at first", x.form(use, 0), 1);
        }
        due("w at first", x.setting(0, 0), 3);
        due("r at first", x.setting(1, 0), 2);
        due("s at first", x.setting(2, 1), 4);
        due("NONE", NeighbourBook.NONE, NONE);
        due("BAD", NeighbourBook.BAD, BAD);
        due("STATE", NeighbourBook.STATE, STATE);
        due("FULL", NeighbourBook.FULL, FULL);
    }

    private void pair() {
        promise = "2";
        NeighbourBook x = new NeighbourBook(3);
        due("pair(0, 2)", x.pair(0, 2), 1);
        due("pair(0, 2) again", x.pair(0, 2), 0);
        due("pair(2, 0)", x.pair(2, 0), 1);
        due("pair(1, 1) to itself", x.pair(1, 1), 1);
        due("pair(3, 0)", x.pair(3, 0), BAD);
        due("pair(0, 3)", x.pair(0, 3), BAD);
        due("pair(-1, 0)", x.pair(-1, 0), BAD);
        due("pair(0, -1)", x.pair(0, -1), BAD);
        due("pair(LEAST, MOST)", x.pair(LEAST, MOST), BAD);
        due("count(1)", x.count(1), 3);
        due("has(0, 2)", x.has(0, 2), 1);
        NeighbourBook y = new NeighbourBook(48);
        for (int b = 0; b < 48; b++) {
            due("pair(0, b) without a book", y.pair(0, b), 1);
        }
        y.pack();
        for (int b = 0; b < 40; b++) {
            due("pair(1, b) with a book", y.pair(1, b), 1);
        }
        due("the 41st patch", y.pair(1, 40), FULL);
        due("FULL changes nothing", y.has(1, 40), 0);
        due("one that is there", y.pair(1, 0), 0);
        due("BAD ahead of FULL", y.pair(48, 40), BAD);
        y.pack();
        due("with a new book", y.pair(1, 40), 1);
    }

    private void drop() {
        promise = "3";
        NeighbourBook x = of(3, row(0, 2), row(1));
        due("drop(0, 2)", x.drop(0, 2), 1);
        due("drop(0, 2) again", x.drop(0, 2), 0);
        due("drop(1, 1)", x.drop(1, 1), 1);
        due("drop(2, 2)", x.drop(2, 2), 0);
        due("drop(3, 0)", x.drop(3, 0), BAD);
        due("drop(0, 3)", x.drop(0, 3), BAD);
        due("drop(-1, 0)", x.drop(-1, 0), BAD);
        due("drop(0, LEAST)", x.drop(0, LEAST), BAD);
        due("count(1)", x.count(1), 1);
        NeighbourBook y = new NeighbourBook(48);
        for (int b = 0; b < 41; b++) {
            y.pair(0, b);
        }
        y.pack();
        for (int b = 0; b < 40; b++) {
            due("drop(0, b) with a book", y.drop(0, b), 1);
        }
        due("the 41st patch", y.drop(0, 40), FULL);
        due("FULL changes nothing", y.has(0, 40), 1);
        due("one that is not there", y.drop(0, 0), 0);
        due("BAD ahead of FULL", y.drop(0, 48), BAD);
    }

    private void patches() {
        promise = "2, 3 (patches)";
        NeighbourBook x = new NeighbourBook(48);
        x.pair(5, 5);
        x.pack();
        due("count(2)", x.count(2), 0);
        x.drop(5, 5);
        due("one that goes", x.count(2), 1);
        x.pair(5, 5);
        due("comes again", x.count(2), 0);
        for (int b = 0; b < 39; b++) {
            x.pair(0, b);
        }
        x.drop(5, 5);
        due("count(2) when full", x.count(2), 40);
        due("one more that comes", x.pair(1, 1), FULL);
        due("a patch comes again", x.pair(5, 5), 1);
        due("one that came goes again", x.drop(0, 7), 1);
        due("count(2) then", x.count(2), 38);
        due("pair(1, 1)", x.pair(1, 1), 1);
        due("pair(1, 2)", x.pair(1, 2), 1);
        due("pair(1, 3)", x.pair(1, 3), FULL);
        due("drop(5, 5)", x.drop(5, 5), FULL);
        due("the book is as it was", x.told(0, 4), 2);
        due("renumber(0)", x.renumber(0) >= 0 ? 1 : 0, 1);
        due("patches are gone", x.count(2), 0);
        due("and come no more", x.pair(47, 47), 1);
        due("count(2) without a book", x.count(2), 0);
    }

    private void has() {
        promise = "4";
        NeighbourBook x = of(4, row(1, 3));
        due("has(0, 1)", x.has(0, 1), 1);
        due("has(0, 3)", x.has(0, 3), 1);
        due("has(0, 2)", x.has(0, 2), 0);
        due("has(1, 0)", x.has(1, 0), 0);
        due("has(0, 4)", x.has(0, 4), BAD);
        due("has(4, 0)", x.has(4, 0), BAD);
        due("has(0, -1)", x.has(0, -1), BAD);
        due("has(-1, 0)", x.has(-1, 0), BAD);
        x.pack();
        x.drop(0, 1);
        x.pair(1, 0);
        due("has(0, 1) patched", x.has(0, 1), 0);
        due("has(1, 0) patched", x.has(1, 0), 1);
    }

    private void next() {
        promise = "5";
        NeighbourBook x = of(48, row(0, 5, 47));
        due("next(0, 0)", x.next(0, 0), 0);
        due("next(0, 1)", x.next(0, 1), 5);
        due("next(0, 5)", x.next(0, 5), 5);
        due("next(0, 6)", x.next(0, 6), 47);
        due("next(0, 48)", x.next(0, 48), NONE);
        due("next(0, MOST)", x.next(0, MOST), NONE);
        due("next(1, 0)", x.next(1, 0), NONE);
        due("next(0, -1)", x.next(0, -1), BAD);
        due("next(0, LEAST)", x.next(0, LEAST), BAD);
        due("next(48, 0)", x.next(48, 0), BAD);
        due("next(-1, 0)", x.next(-1, 0), BAD);
    }

    private void degree() {
        promise = "6";
        NeighbourBook x = of(3, row(0, 1, 2), row(), row(2));
        due("degree(0, 0)", x.degree(0, 0), 3);
        due("degree(1, 0)", x.degree(1, 0), 0);
        due("degree(0, 1)", x.degree(0, 1), 1);
        due("degree(2, 1)", x.degree(2, 1), 2);
        due("degree(0, 2)", x.degree(0, 2), BAD);
        due("degree(0, -1)", x.degree(0, -1), BAD);
        due("degree(3, 0)", x.degree(3, 0), BAD);
        due("degree(-1, 1)", x.degree(-1, 1), BAD);
    }

    private void meet() {
        promise = "7";
        NeighbourBook x = of(5, row(0, 1, 4), row(1, 2, 4), row(3));
        due("meet(0, 1)", x.meet(0, 1), 2);
        due("meet(1, 0)", x.meet(1, 0), 2);
        due("meet(0, 2)", x.meet(0, 2), 0);
        due("meet(0, 0)", x.meet(0, 0), 3);
        due("meet(3, 4)", x.meet(3, 4), 0);
        due("meet(0, 5)", x.meet(0, 5), BAD);
        due("meet(-1, 0)", x.meet(-1, 0), BAD);
    }

    private void back() {
        promise = "8";
        NeighbourBook x = of(5, row(3), row(), row(3), row(3), row(0));
        due("back(3, 0)", x.back(3, 0), 0);
        due("back(3, 1)", x.back(3, 1), 2);
        due("back(3, 2)", x.back(3, 2), 3);
        due("back(3, 3)", x.back(3, 3), NONE);
        due("back(3, -1)", x.back(3, -1), NONE);
        due("back(3, MOST)", x.back(3, MOST), NONE);
        due("back(3, LEAST)", x.back(3, LEAST), NONE);
        due("back(1, 0)", x.back(1, 0), NONE);
        due("back(5, 0)", x.back(5, 0), BAD);
        due("back(-1, -1)", x.back(-1, -1), BAD);
    }

    private void form() {
        promise = "9";
        NeighbourBook x = new NeighbourBook(2);
        due("form(0, 9)", x.form(0, 9), 1);
        due("form(0, 0)", x.form(0, 0), 9);
        due("form(7, 5)", x.form(7, 5), 1);
        due("form(7, 5) again", x.form(7, 5), 5);
        due("form(0, 10)", x.form(0, 10), BAD);
        due("form(0, -1)", x.form(0, -1), BAD);
        due("form(8, 0)", x.form(8, 0), BAD);
        due("form(-1, 0)", x.form(-1, 0), BAD);
        due("BAD changes nothing", x.form(0, 1), 0);
        x.pack();
        due("pack by 1", x.count(3), 4);
        x.form(0, 9);
        due("the book stays", x.told(0, 4), 2);
        due("what is packed then", x.pack(), 16);
    }

    private void setting() {
        promise = "10";
        NeighbourBook x = new NeighbourBook(2);
        due("w 7", x.setting(0, 7), 3);
        due("w 0", x.setting(0, 0), 7);
        due("w 8", x.setting(0, 8), BAD);
        due("w -1", x.setting(0, -1), BAD);
        due("w stays", x.setting(0, 3), 0);
        due("r 5", x.setting(1, 5), 2);
        due("r 0", x.setting(1, 0), 5);
        due("r 6", x.setting(1, 6), BAD);
        due("r -1", x.setting(1, -1), BAD);
        due("s 9", x.setting(2, 9), 4);
        due("s 1", x.setting(2, 1), 9);
        due("s 0", x.setting(2, 0), BAD);
        due("s 10", x.setting(2, 10), BAD);
        due("setting(3, 1)", x.setting(3, 1), BAD);
        due("setting(-1, 1)", x.setting(-1, 1), BAD);
    }

    private void length() {
        promise = "11";
        NeighbourBook x = new NeighbourBook(1);
        int[][] dues = {
            {0, 0, 1}, {0, 5, 6}, {0, 100000, 100001},
            {1, 0, 1}, {1, 1, 3}, {1, 2, 3}, {1, 3, 5}, {1, 6, 5}, {1, 7, 7}, {1, 65534, 31}, {1, 65535, 33}, {1, 100000, 33},
            {2, 0, 1}, {2, 1, 4}, {2, 2, 4}, {2, 3, 5}, {2, 6, 5}, {2, 7, 8}, {2, 14, 8}, {2, 15, 9}, {2, 100000, 25},
            {3, 0, 1}, {3, 9, 10}, {4, 0, 2}, {4, 1, 2}, {4, 2, 3}, {5, 3, 3}, {5, 4, 4}, {8, 31, 6}, {8, 32, 7},
            {9, 63, 7}, {9, 64, 8}, {9, 100000, 1569},
            {10, 0, BAD}, {-1, 0, BAD}, {0, -1, BAD}, {0, 100001, BAD}, {0, MOST, BAD}, {MOST, LEAST, BAD}};
        for (int[] d : dues) {
            due("length(" + d[0] + ", " + d[1] + ")", x.length(d[0], d[1]), d[2]);
        }
    }

    private void cost() {
        promise = "12";
        NeighbourBook x = of(8, row(), row(0, 1, 2, 5), row(0, 1, 2, 4, 5, 6, 7), row(1, 3), row(1, 3));
        due("PLAIN without things", x.cost(0, 0, 0), 2);
        due("SPANS without things", x.cost(0, 1, 0), 3 + 1 + 1);
        due("DENSE without things", x.cost(0, 4, 0), STATE);
        due("PLAIN", x.cost(2, 0, 0), 1 + 7 + 5 + (1 + 1 + 3 + 1 + 1 + 1));
        due("PLAIN, k is not looked at", x.cost(2, 0, LEAST), 21);
        due("SPANS", x.cost(2, 1, 99), 3 + 3 + (5 + 1) + (1 + 3) + 1);
        due("DENSE", x.cost(2, 4, -9), 5 + 5 + 7 + 6);
        due("DENSE of two", x.cost(3, 4, 0), 5 + 5 + 3 + 1);
        due("COPIED, all shared", x.cost(2, 2, 1), 3 + 1 + 1 + 1 + (5 + 5 + 3 + 1));
        due("COPIED, from none", x.cost(2, 2, 2), 3 + 3 + 1 + (3 + 5 + 1 + 1 + 3) + 1);
        due("COPIED, first block of none", x.cost(3, 2, 1), 3 + 1 + 5 + 3 + 1 + (3 + 1));
        due("COPIED, all shared, none left", x.cost(4, 2, 1), 3 + 1 + 1 + 1 + 1);
        due("SAME", x.cost(4, 3, 1), 5 + 1);
        due("SAME, both without things", x.cost(7, 3, 2), 5 + 3);
        due("COPIED beyond w", x.cost(7, 2, 7), 3 + 5 + 1 + 1 + 1);
        due("SAME, and they are not", x.cost(4, 3, 2), STATE);
        due("COPIED, k 0", x.cost(4, 2, 0), BAD);
        due("SAME, k 0", x.cost(4, 3, 0), BAD);
        due("COPIED, k -1", x.cost(4, 2, -1), BAD);
        due("COPIED, k LEAST", x.cost(4, 2, LEAST), BAD);
        due("COPIED, k MOST", x.cost(4, 2, MOST), BAD);
        due("COPIED, from 0", x.cost(4, 2, 4) > 0 ? 1 : 0, 1);
        due("COPIED, from below 0", x.cost(4, 2, 5), BAD);
        due("SAME, from below 0", x.cost(0, 3, 1), BAD);
        due("KIND 5", x.cost(4, 5, 1), BAD);
        due("KIND -1", x.cost(4, -1, 1), BAD);
        due("a 8", x.cost(8, 0, 1), BAD);
        due("a -1", x.cost(-1, 4, 1), BAD);
    }

    /** One number in each use, each use in another form. */
    private void costByForms() {
        promise = "12 (forms)";
        NeighbourBook x = of(48, row(), row(3, 4, 5, 9, 10, 11, 12, 20), row(3, 4, 9, 10, 12, 30, 31, 32));
        for (int use = 0; use < 8; use++) {
            x.form(use, 9 - use);
        }
        // KIND by 9, COUNT by 8, FIRST by 7, GAP by 6, BACK by 5, BLOCK by 4, BEGIN by 3, LENGTH by 2.
        due("PLAIN", x.cost(1, 0, 0), 7 + 6 + 5 + 4 * 7);
        due("SPANS", x.cost(1, 1, 0), 7 + 6 + (5 + 1) + (4 + 4) + 6 + (4 + 1 + 2));
        due("DENSE", x.cost(1, 4, 0), 7 + 5 + 6 + 16);
        // 3 4 / 5 / 9 10 / 11 / 12 / 20: six blocks, 2 1 2 1 1 told as 2 0 1 0 0.
        due("COPIED", x.cost(2, 2, 1), 7 + 3 + 6 + (3 + 2 + 2 + 2 + 2) + 6 + (57 + 1) + 6);
        x.pack();
        x.drop(1, 20);
        due("as it is now", x.cost(1, 0, 0), 7 + 6 + 5 + 4 * 6);
    }

    private void pack() {
        promise = "13";
        NeighbourBook x = fourAlike();
        due("pack()", x.pack(), 8 + 6 + 6 + 8);
        x.setting(1, 1);
        due("r 1", x.pack(), 8 + 6 + 8 + 8);
        x.setting(1, 3);
        due("r 3", x.pack(), 8 + 6 + 6 + 6);
        x.setting(1, 0);
        due("r 0", x.pack(), 8 + 10 + 12 + 12);
        x.setting(1, 1);
        x.setting(0, 1);
        due("w 1, r 1", x.pack(), 8 + 6 + 12 + 6);
        x.setting(0, 0);
        due("w 0", x.pack(), 8 + 10 + 12 + 12);
        x.pair(3, 3);
        due("a patch", x.count(2), 1);
        due("with it", x.pack(), 8 + 10 + 12 + 15);
        due("none any more", x.count(2), 0);
        due("48 without pairs", new NeighbourBook(48).pack(), 96);
        NeighbourBook spans = of(8, row(), row(0, 1, 2, 4, 5, 6, 7));
        spans.setting(0, 0);
        spans.pack();
        due("SPANS is the cheapest", spans.told(1, 0), 1);
        due("and has", spans.told(1, 4), 3 + 3 + (3 + 1) + (1 + 3) + 1);
        NeighbourBook dense = of(24, row(0, 2, 4, 6, 8, 10, 12, 14, 16, 18, 20, 22));
        dense.pack();
        due("DENSE is the cheapest", dense.told(0, 0), 4);
        due("DENSE has", dense.told(0, 4), 5 + 1 + 9 + 21);
    }

    private void packTies() {
        promise = "13 (of several)";
        NeighbourBook x = of(3);
        x.form(0, 9);
        due("pack()", x.pack(), 24);
        due("the lesser KIND", x.told(1, 0), 0);
        NeighbourBook y = fourAlike();
        y.form(4, 9);
        y.form(1, 9);
        y.setting(1, 5);
        y.pack();
        due("SAME", y.told(3, 0), 3);
        due("the lesser k", y.told(3, 1), 1);
        due("DEPTH", y.told(3, 2), 3);
    }

    private void told() {
        promise = "14";
        NeighbourBook x = fourAlike();
        due("without a book", x.told(0, 0), STATE);
        due("BAD ahead of STATE", x.told(4, 0), BAD);
        due("what 5 without a book", x.told(0, 5), BAD);
        x.pack();
        int[][] dues = {{0, 0, 0, 0, 8}, {3, 1, 1, 8, 6}, {3, 1, 2, 14, 6}, {3, 2, 2, 20, 8}};
        for (int a = 0; a < 4; a++) {
            for (int what = 0; what < 5; what++) {
                due("told(" + a + ", " + what + ")", x.told(a, what), dues[a][what]);
            }
        }
        due("told(4, 0)", x.told(4, 0), BAD);
        due("told(-1, 0)", x.told(-1, 0), BAD);
        due("told(0, 5)", x.told(0, 5), BAD);
        due("told(0, -1)", x.told(0, -1), BAD);
        x.drop(1, 0);
        x.setting(1, 0);
        x.form(0, 9);
        due("as it was packed", x.told(1, 0), 3);
        due("its bits too", x.told(3, 3), 20);
        x.renumber(0);
        due("the book is gone", x.told(0, 0), STATE);
    }

    private void looked() {
        promise = "15";
        NeighbourBook x = fourAlike();
        due("without a book", x.looked(0), STATE);
        due("BAD ahead of STATE", x.looked(4), BAD);
        x.setting(0, 1);
        x.setting(1, 5);
        x.setting(2, 2);
        x.pack();
        due("looked(0)", x.looked(0), 8);
        due("looked(1)", x.looked(1), 14 + 8);
        due("looked(2)", x.looked(2), 6 + 22);
        due("looked(3)", x.looked(3), 12 + 28);
        due("looked(-1)", x.looked(-1), BAD);
        due("looked(MOST)", x.looked(MOST), BAD);
        x.setting(2, 9);
        due("s as it was packed", x.looked(3), 40);
        x.setting(2, 3);
        x.pack();
        due("s 3", x.looked(3), 6 + 20 + 14 + 8);
    }

    private void would() {
        promise = "16";
        NeighbourBook x = of(2, row(0));
        due("without a book", x.would(0, 0), STATE);
        due("BAD ahead of STATE", x.would(8, 0), BAD);
        x.pack();
        due("KIND by 0", x.would(0, 0), 2);
        due("KIND by 9", x.would(0, 9), 14);
        due("COUNT by 0", x.would(1, 0), 3);
        due("COUNT by 1", x.would(1, 1), 4);
        due("COUNT by 2", x.would(1, 2), 5);
        due("FIRST by 9", x.would(2, 9), 7);
        due("GAP", x.would(3, 9), 0);
        due("LENGTH", x.would(7, 0), 0);
        due("use 8", x.would(8, 0), BAD);
        due("use -1", x.would(-1, 0), BAD);
        due("form 10", x.would(0, 10), BAD);
        due("form -1", x.would(0, -1), BAD);
        x.pair(1, 1);
        due("of the book, not of patches", x.would(1, 0), 3);
        NeighbourBook dense = of(24, row(0, 2, 4, 6, 8, 10, 12, 14, 16, 18, 20, 22));
        dense.setting(0, 0);
        dense.pack();
        due("the bits of DENSE are no numbers", dense.would(1, 0), 23 + 23);
        NeighbourBook y = fourAlike();
        y.pack();
        due("BACK 0, 0, 1 by 0", y.would(4, 0), 4);
    }

    private void forms() {
        promise = "17";
        NeighbourBook x = of(2, row(0));
        due("without a book", x.forms(), STATE);
        x.pack();
        x.pair(1, 1);
        due("with patches", x.forms(), STATE);
        due("which changes nothing", x.form(1, 1), 1);
        x.drop(1, 1);
        due("forms()", x.forms(), 6);
        due("its bits are 101111", x.sum(), 33 + 0xBC);
        due("count(3)", x.count(3), 6);
        due("the form of KIND", x.form(0, 1), 0);
        due("the form of COUNT", x.form(1, 1), 0);
        due("the form of a use without numbers", x.form(7, 1), 0);
        NeighbourBook gaps = of(48, row(0, 21, 42));
        for (int use = 0; use < 8; use++) {
            gaps.form(use, 0);
        }
        gaps.setting(0, 0);
        gaps.pack();
        due("PLAIN", gaps.told(0, 0), 0);
        gaps.forms();
        // GAPS 20, 20: 21 by 0 and 3, 9 by 1, 12 by 4, 8 by 5, 6 by 6 and 7 (20 / 8 + 1 + 3, 20 / 16 + 1 + 4).
        due("the lesser of several forms", gaps.form(3, 0), 6);
    }

    private void formsKeepTellings() {
        promise = "17 (tellings, s)";
        NeighbourBook x = fourAlike();
        x.setting(2, 2);
        x.pack();
        x.setting(2, 1);
        x.setting(1, 0);
        x.form(0, 9);
        x.alter(0, 255);
        // KINDS 0 3 3 3 by 3 - 6: 13 by 0, 16 by 1, 16 by 2, 13 by 3, 11 by 4, 12 by 5; BACK 0 0 1: 4 by 0; 5 more.
        due("forms()", x.forms(), 11 + (3 + 1 + 2) + 4);
        due("KIND", x.told(3, 0), 3);
        due("k", x.told(3, 1), 2);
        due("DEPTH", x.told(3, 2), 2);
        due("bits", x.told(3, 4), 3 + 2);
        due("first bit", x.told(1, 3), 2 + 3 + 1 + 2);
        due("s as it was packed", x.count(4), 2);
        due("place(1)", x.place(1), 8 + 4);
        due("what was altered is written anew", x.judge(), NONE);
        due("the form of KIND", x.form(0, 1), 4);
    }

    private void best() {
        promise = "18";
        NeighbourBook x = fourAlike();
        // Each copies best from the row just ahead: a chain of four.
        due("r 2", x.best(), 8 + 10 + 6 + 6);
        x.setting(1, 1);
        due("r 1", x.best(), 8 + 6 + 12 + 6);
        x.setting(1, 3);
        due("r 3", x.best(), 8 + 6 + 6 + 6);
        x.setting(1, 0);
        due("r 0", x.best(), 42);
        x.setting(1, 5);
        x.setting(0, 0);
        due("w 0", x.best(), 42);
        x.setting(0, 7);
        x.setting(1, 1);
        x.form(4, 5);
        due("of several the nearest", x.best(), 8 + 8 + 12 + 8);
        due("there is no book by it", x.count(3), 0);
        NeighbourBook y = of(3);
        due("without pairs", y.best(), 6);
        y.pack();
        y.pair(2, 2);
        due("of the pairs as they are", y.best(), 2 + 2 + 5);
    }

    private void bit() {
        promise = "19";
        NeighbourBook x = of(2, row(0));
        due("without a book", x.bit(0), NONE);
        x.pack();
        int[] bits = {1, 0, 1, 0, 1, 1, 1, NONE, NONE};
        for (int i = 0; i < bits.length; i++) {
            due("bit(" + i + ")", x.bit(i), bits[i]);
        }
        due("bit(-1)", x.bit(-1), NONE);
        due("bit(LEAST)", x.bit(LEAST), NONE);
        due("bit(MOST)", x.bit(MOST), NONE);
        x.alter(0, 128 + 1);
        due("altered", x.bit(0), 0);
        due("behind the last", x.bit(7), NONE);
        x.renumber(0);
        due("the book is gone", x.bit(0), NONE);
    }

    private void place() {
        promise = "20";
        NeighbourBook x = fourAlike();
        due("without a book", x.place(0), NONE);
        x.setting(2, 3);
        x.pack();
        due("place(0)", x.place(0), 0);
        due("place(1)", x.place(1), 20);
        due("place(2)", x.place(2), NONE);
        due("place(-1)", x.place(-1), NONE);
        due("place(MOST)", x.place(MOST), NONE);
        due("place(LEAST)", x.place(LEAST), NONE);
        x.setting(2, 1);
        due("s as it was packed", x.place(1), 20);
        x.pack();
        due("s 1", x.place(1), 8);
        due("s 1, the last", x.place(3), 20);
        due("s 1, none", x.place(4), NONE);
        x.renumber(2);
        due("the book is gone", x.place(0), NONE);
    }

    private void sum() {
        promise = "21";
        NeighbourBook x = of(2, row(0));
        due("without a book", x.sum(), STATE);
        x.pack();
        due("1010111, and a 0", x.sum(), 33 + 0xAE);
        NeighbourBook y = new NeighbourBook(5);
        y.pack();
        due("ten 1s", y.sum(), (33 + 255) * 33 + 0xC0);
        y.alter(1, 3);
        due("altered behind the last", y.sum(), (33 + 255) * 33 + 0xC3);
        long h = 1;
        for (int i = 0; i < 12; i++) {
            h = h * 33 + 255;
        }
        NeighbourBook z = new NeighbourBook(48);
        z.pack();
        due("96 1s", z.sum(), h);
        z.renumber(0);
        due("the book is gone", z.sum(), STATE);
    }

    private void alter() {
        promise = "22";
        NeighbourBook x = of(2, row(0));
        due("without a book", x.alter(0, 1), STATE);
        due("STATE ahead of BAD", x.alter(-1, 0), STATE);
        x.pack();
        due("alter(0, 1)", x.alter(0, 1), 0xAF);
        due("alter(0, 255)", x.alter(0, 255), 0x50);
        due("mask 0", x.alter(0, 0), BAD);
        due("mask 256", x.alter(0, 256), BAD);
        due("mask -1", x.alter(0, -1), BAD);
        due("i 1", x.alter(1, 1), BAD);
        due("i -1", x.alter(-1, 1), BAD);
        due("i MOST", x.alter(MOST, 1), BAD);
        due("BAD changes nothing", x.sum(), 33 + 0x50);
        due("nothing else asks it: has", x.has(0, 0), 1);
        due("told", x.told(0, 4), 5);
        due("looked", x.looked(1), 7);
        due("would", x.would(1, 0), 3);
        due("count(2)", x.count(2), 0);
        NeighbourBook y = new NeighbourBook(5);
        y.pack();
        due("the last byte", y.alter(1, 64), 0x80);
        due("behind it", y.alter(2, 64), BAD);
    }

    private void judge() {
        promise = "23";
        due("without a book", new NeighbourBook(2).judge(), STATE);
        NeighbourBook x = sevenBits();
        due("as written", x.judge(), NONE);
        int[][] dues = {{1, 2}, {2, 1}, {4, 1}, {8, 0}, {128, 0}, {3, 1}, {12, 0}, {255, 0}};
        for (int[] d : dues) {
            x.alter(0, d[0]);
            due("mask " + d[0], x.judge(), d[1]);
            x.alter(0, d[0]);
            due("and back", x.judge(), NONE);
        }
        x.alter(0, 2);
        x.pack();
        due("packed anew", x.judge(), NONE);
        NeighbourBook y = new NeighbourBook(48);
        y.pack();
        y.alter(11, 1);
        due("the last thing", y.judge(), 47);
        y.pair(0, 0);
        due("patches are not asked", y.judge(), 47);
        y.alter(5, 4);
        due("the first of both", y.judge(), 22);
    }

    private void order() {
        promise = "24";
        NeighbourBook x = of(6, row(4), row(), row(0, 1, 2), row(5), row(2), row());
        dueOrder(x, 0, 2, 0, 3, 4, 1, 5);
        dueOrder(x, 1, 0, 4, 2, 1, 3, 5);
        // Keys of 0 .. 5: 0, 632, 241, 874, 483, 92.
        dueOrder(x, 2, 2, 3, 4, 0, 1, 5);
        due("order(0, 6)", x.order(0, 6), NONE);
        due("order(1, -1)", x.order(1, -1), NONE);
        due("order(2, MOST)", x.order(2, MOST), NONE);
        due("order(3, 0)", x.order(3, 0), BAD);
        due("order(-1, 0)", x.order(-1, 0), BAD);
        due("BAD ahead of NONE", x.order(3, -1), BAD);
        NeighbourBook y = of(48);
        due("without pairs, 0", y.order(0, 47), 47);
        due("without pairs, 1", y.order(1, 47), 47);
        due("without pairs, 2", y.order(2, 47), 47);
        x.pack();
        x.pair(1, 0);
        x.pair(1, 1);
        x.pair(1, 2);
        x.pair(1, 3);
        due("as it is with patches", x.order(0, 0), 1);
    }

    private void dueOrder(NeighbourBook x, int order, int... line) {
        for (int i = 0; i < line.length; i++) {
            due("order(" + order + ", " + i + ")", x.order(order, i), line[i]);
        }
    }

    private void renumber() {
        promise = "25";
        NeighbourBook x = of(3, row(), row(0), row(0, 1, 2));
        x.pack();
        x.pair(0, 0);
        x.drop(0, 0);
        due("renumber(3)", x.renumber(3), BAD);
        due("renumber(-1)", x.renumber(-1), BAD);
        due("BAD changes nothing", x.count(3) > 0 ? 1 : 0, 1);
        due("renumber(0)", x.renumber(0), 0);
        int[][] has = {{1, 1, 1}, {0, 0, 1}, {0, 0, 0}};
        for (int a = 0; a < 3; a++) {
            for (int b = 0; b < 3; b++) {
                due("has(" + a + ", " + b + ")", x.has(a, b), has[a][b]);
            }
        }
        due("no book", x.count(3), 0);
        due("no patches", x.count(2), 0);
        NeighbourBook y = of(4, row(3), row(0), row(1), row(2));
        // By layers 0 3 2 1: a ring, in which one pair alone goes back.
        due("renumber(1)", y.renumber(1), 1);
        due("has(0, 1)", y.has(0, 1), 1);
        due("has(3, 0)", y.has(3, 0), 1);
        due("count(1)", y.count(1), 4);
        NeighbourBook z = of(3, row(1), row(2), row(0));
        // Keys 632, 241, 0: 2 1 0; then 2 to 1, 1 to 0, 0 to 2.
        due("renumber(2)", z.renumber(2), 2);
        due("has(2, 1)", z.has(2, 1), 1);
        due("has(1, 0)", z.has(1, 0), 1);
        due("has(0, 2)", z.has(0, 2), 1);
        z.form(2, 7);
        z.renumber(0);
        due("forms stay", z.form(2, 1), 7);
    }

    private void threes() {
        promise = "26";
        due("without pairs", new NeighbourBook(3).threes(), 0);
        NeighbourBook x = of(4, row(0, 1), row(2), row(0));
        due("either way", x.threes(), 1);
        x.pair(1, 0);
        due("both ways count once", x.threes(), 1);
        x.drop(0, 1);
        x.drop(1, 0);
        due("two of three", x.threes(), 0);
        NeighbourBook y = new NeighbourBook(48);
        for (int a = 40; a < 48; a++) {
            for (int b = a; b < 48; b++) {
                y.pair(a, b);
            }
        }
        due("of eight", y.threes(), 56);
    }

    private void parts() {
        promise = "27";
        NeighbourBook x = of(7, row(0), row(2), row(), row(2), row(5));
        due("parts(NONE)", x.parts(NONE), 4);
        due("parts(0)", x.parts(0), 1);
        due("parts(1)", x.parts(1), 3);
        due("parts(3)", x.parts(3), 3);
        due("parts(5)", x.parts(5), 2);
        due("parts(6)", x.parts(6), 1);
        due("parts(7)", x.parts(7), BAD);
        due("parts(-2)", x.parts(-2), BAD);
        due("parts(LEAST)", x.parts(LEAST), BAD);
        NeighbourBook y = chain();
        due("all of 48", y.parts(47), 48);
        due("one part", y.parts(NONE), 1);
        due("48 parts", new NeighbourBook(48).parts(NONE), 48);
    }

    private static NeighbourBook chain() {
        NeighbourBook y = new NeighbourBook(48);
        for (int a = 0; a < 47; a++) {
            y.pair(a, a + 1);
        }
        return y;
    }

    private void far() {
        promise = "28";
        NeighbourBook x = of(5, row(1), row(2, 1), row(3), row(0), row());
        due("far(0, 0)", x.far(0, 0), 0);
        due("far(4, 4)", x.far(4, 4), 0);
        due("far(0, 1)", x.far(0, 1), 1);
        due("far(0, 3)", x.far(0, 3), 3);
        due("far(1, 0)", x.far(1, 0), 3);
        due("far(0, 4)", x.far(0, 4), NONE);
        due("far(4, 0)", x.far(4, 0), NONE);
        x.pair(0, 3);
        due("a nearer way", x.far(0, 3), 1);
        due("far(5, 0)", x.far(5, 0), BAD);
        due("far(0, -1)", x.far(0, -1), BAD);
        due("far(0, 47)", chain().far(0, 47), 47);
        due("far(47, 0)", chain().far(47, 0), NONE);
    }

    private void count() {
        promise = "29";
        NeighbourBook x = fourAlike();
        int[] without = {4, 8, 0, 0, 0, 0, 0};
        int[] with = {4, 8, 0, 28, 1, 3, 2};
        dueCounts(x, without);
        x.pack();
        dueCounts(x, with);
        x.setting(2, 3);
        x.pack();
        x.pair(3, 3);
        dueCounts(x, 4, 9, 1, 28, 2, 3, 2);
        due("count(7)", x.count(7), BAD);
        due("count(-1)", x.count(-1), BAD);
        due("count(LEAST)", x.count(LEAST), BAD);
        x.renumber(1);
        dueCounts(x, 4, 9, 0, 0, 0, 0, 0);
        NeighbourBook y = of(48, row(0, 5, 10, 15, 20), row(0, 5, 10, 15, 20, 21));
        due("PLAIN, COPIED and 46 rows without things", y.pack(), (1 + 5 + 1 + 4 * 5) + (3 + 1 + 1 + 1 + 3 + 11) + 92);
        due("COPIED", y.told(1, 0), 2);
        due("COPIED is copied", y.count(5), 1);
        due("and has a DEPTH", y.count(6), 1);
    }

    private void dueCounts(NeighbourBook x, int... dues) {
        for (int what = 0; what < dues.length; what++) {
            due("count(" + what + ")", x.count(what), dues[what]);
        }
    }
}
