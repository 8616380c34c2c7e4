import java.util.Random;

/** Long runs of calls, made by a fixed seed, on the program and on the plain model beside it. */
public final class ModelTest {
    private static final int RUNS = 600;
    /** A little below the 512 that the document promises, as the last step may make several calls. */
    private static final int CALLS = 500;
    private static final int[] EDGES = {
        Integer.MIN_VALUE, -1000, -48, -5, -4, -3, -2, -1, 0, 1, 2, 3, 4, 5, 6, 7, 8, 9, 10, 40, 46, 47, 48, 49,
        63, 64, 65, 99, 128, 255, 256, 99999, 100000, 100001, Integer.MAX_VALUE - 1, Integer.MAX_VALUE};

    private final Checks checks;
    private final Random random;
    private final int run;
    private final NeighbourBook x;
    private final Model m;
    private int calls = 0;

    private ModelTest(Checks checks, int run) {
        this.checks = checks;
        this.run = run;
        random = new Random(run);
        int n = run % 3 == 0 ? random.nextInt(54) - 3 : run % 3 == 1 ? 1 + random.nextInt(9) : 10 + random.nextInt(39);
        x = new NeighbourBook(n);
        m = new Model(n);
    }

    public static void main(String[] args) {
        Checks checks = new Checks();
        for (int run = 0; run < RUNS; run++) {
            new ModelTest(checks, run).play();
        }
        checks.end();
    }

    private void play() {
        if (random.nextInt(4) > 0) {
            setUp(random.nextInt(330));
        }
        while (calls < CALLS) {
            if (random.nextInt(60) == 0) {
                sweep();
            } else {
                call(random.nextInt(44));
            }
        }
    }

    /** Rows of several makes, so that each telling is the cheapest somewhere. */
    private void setUp(int most) {
        for (int use = 0; use < 8; use++) {
            if (random.nextInt(3) == 0) {
                form(use, random.nextInt(10));
            }
        }
        setting(0, random.nextInt(8));
        setting(1, random.nextInt(6));
        setting(2, 1 + random.nextInt(9));
        for (int a = 0; a < m.n && calls < most; a++) {
            switch (random.nextInt(6)) {
                case 0:
                    for (int b = random.nextInt(m.n); b < m.n && random.nextInt(9) > 0; b++) {
                        pair(a, b);
                    }
                    break;
                case 1:
                case 2:
                case 3:
                    copy(a);
                    break;
                case 4:
                    for (int i = random.nextInt(5); i > 0; i--) {
                        pair(a, random.nextInt(m.n));
                    }
                    break;
                default:
                    int begin = random.nextInt(m.n);
                    for (int b = begin; b < m.n && b < begin + 14; b++) {
                        if (random.nextInt(5) > 1) {
                            pair(a, b);
                        }
                    }
                    break;
            }
        }
    }

    private void copy(int a) {
        int y = Math.max(0, a - 1 - random.nextInt(4));
        int changes = random.nextInt(3);
        for (int b = 0; b < m.n; b++) {
            boolean other = changes > 0 && random.nextInt(12) == 0;
            if ((m.has(y, b) == 1) != other) {
                pair(a, b);
            }
        }
    }

    /** All that tells of a book, one thing behind the other. */
    private void sweep() {
        due("pack()", x.pack(), m.pack());
        for (int a = 0; a < m.n && calls < CALLS; a++) {
            for (int what = 0; what < 5; what++) {
                due("told(" + a + ", " + what + ")", x.told(a, what), m.told(a, what));
            }
            due("looked(" + a + ")", x.looked(a), m.looked(a));
        }
        due("sum()", x.sum(), m.sum());
        due("best()", x.best(), m.best());
    }

    private void call(int which) {
        int a = thing();
        int b = thing();
        switch (which) {
            case 0: case 1: case 2: case 3: case 4: case 5: pair(a, b); break;
            case 6: case 7: case 8: due("drop(" + a + ", " + b + ")", x.drop(a, b), m.drop(a, b)); break;
            case 9: due("has(" + a + ", " + b + ")", x.has(a, b), m.has(a, b)); break;
            case 10: due("next(" + a + ", " + b + ")", x.next(a, b), m.next(a, b)); break;
            case 11: b = small(2); due("degree(" + a + ", " + b + ")", x.degree(a, b), m.degree(a, b)); break;
            case 12: due("meet(" + a + ", " + b + ")", x.meet(a, b), m.meet(a, b)); break;
            case 13: b = small(6); due("back(" + a + ", " + b + ")", x.back(a, b), m.back(a, b)); break;
            case 14: form(small(8), small(10)); break;
            case 15: setting(small(3), small(10)); break;
            case 16: length(small(10), random.nextBoolean() ? random.nextInt(100001) : edge()); break;
            case 17: case 18: case 19: cost(a, small(5), small(8)); break;
            case 20: due("pack()", x.pack(), m.pack()); break;
            case 21: b = small(5); due("told(" + a + ", " + b + ")", x.told(a, b), m.told(a, b)); break;
            case 22: due("looked(" + a + ")", x.looked(a), m.looked(a)); break;
            case 23: case 24: would(small(8), small(10)); break;
            case 25: due("forms()", x.forms(), m.forms()); break;
            case 26: case 27: due("best()", x.best(), m.best()); break;
            case 28: case 29: a = small(Math.max(1, m.count(3) + 9)); due("bit(" + a + ")", x.bit(a), m.bit(a)); break;
            case 30: a = small(13); due("place(" + a + ")", x.place(a), m.place(a)); break;
            case 31: due("sum()", x.sum(), m.sum()); break;
            case 32: case 33: alter(small(m.count(3) / 8 + 1), 1 + small(255)); break;
            case 34: due("judge()", x.judge(), m.judge()); break;
            case 35: case 36: order(small(3), thing()); break;
            case 37: renumber(small(3)); break;
            case 38: due("threes()", x.threes(), m.threes()); break;
            case 39: a = random.nextInt(3) == 0 ? -1 : a; due("parts(" + a + ")", x.parts(a), m.parts(a)); break;
            case 40: case 41: due("far(" + a + ", " + b + ")", x.far(a, b), m.far(a, b)); break;
            default: a = small(7); due("count(" + a + ")", x.count(a), m.count(a)); break;
        }
    }

    private void pair(int a, int b) {
        due("pair(" + a + ", " + b + ")", x.pair(a, b), m.pair(a, b));
    }

    private void form(int use, int form) {
        due("form(" + use + ", " + form + ")", x.form(use, form), m.form(use, form));
    }

    private void setting(int what, int v) {
        due("setting(" + what + ", " + v + ")", x.setting(what, v), m.setting(what, v));
    }

    private void length(int form, int v) {
        due("length(" + form + ", " + v + ")", x.length(form, v), m.length(form, v));
    }

    private void cost(int a, int kind, int k) {
        due("cost(" + a + ", " + kind + ", " + k + ")", x.cost(a, kind, k), m.cost(a, kind, k));
    }

    private void would(int use, int form) {
        due("would(" + use + ", " + form + ")", x.would(use, form), m.would(use, form));
    }

    private void alter(int i, int mask) {
        due("alter(" + i + ", " + mask + ")", x.alter(i, mask), m.alter(i, mask));
        if (random.nextBoolean()) {
            due("judge()", x.judge(), m.judge());
        }
        if (random.nextBoolean()) {
            due("alter(" + i + ", " + mask + ")", x.alter(i, mask), m.alter(i, mask));
        }
    }

    private void order(int order, int i) {
        due("order(" + order + ", " + i + ")", x.order(order, i), m.order(order, i));
    }

    private void renumber(int order) {
        // Seldom, as it takes the book away.
        if (random.nextInt(4) == 0) {
            due("renumber(" + order + ")", x.renumber(order), m.renumber(order));
        }
    }

    private int thing() {
        return random.nextInt(25) == 0 ? edge() : random.nextInt(m.n);
    }

    private int small(int limit) {
        return random.nextInt(15) == 0 ? edge() : random.nextInt(limit);
    }

    private int edge() {
        return EDGES[random.nextInt(EDGES.length)];
    }

    private void due(String call, long got, long want) {
        calls++;
        checks.due("run " + run + ", call " + calls + ": " + call, got, want);
    }
}
