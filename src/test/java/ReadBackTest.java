import java.util.ArrayList;
import java.util.List;
import java.util.Random;
import java.util.TreeSet;

/** Reads the rows back from nothing but the bits and the forms: what is written can be read. */
public final class ReadBackTest {
    private static final int RUNS = 200;

    private final NeighbourBook x;
    private final int n;
    private final int[] form;
    private final List<TreeSet<Integer>> rows = new ArrayList<>();
    private int at = 0;

    private ReadBackTest(NeighbourBook x, int n, int[] form) {
        this.x = x;
        this.n = n;
        this.form = form;
    }

    public static void main(String[] args) {
        Checks checks = new Checks();
        int[] kinds = new int[5];
        for (int run = 0; run < RUNS; run++) {
            play(checks, kinds, run);
        }
        for (int kind = 0; kind < 5; kind++) {
            checks.due("rows of KIND " + kind + " were read", kinds[kind] > 0 ? 1 : 0, 1);
        }
        checks.end();
    }

    private static void play(Checks checks, int[] kinds, int run) {
        Random random = new Random(run);
        int n = 1 + random.nextInt(48);
        NeighbourBook x = new NeighbourBook(n);
        int[] form = new int[8];
        for (int use = 0; use < 8; use++) {
            form[use] = random.nextInt(run % 2 == 0 ? 10 : 3);
            x.form(use, form[use]);
        }
        x.setting(0, random.nextInt(8));
        x.setting(1, random.nextInt(6));
        join(x, n, random);
        int size = x.pack();
        new ReadBackTest(x, n, form).check(checks, kinds, "run " + run, size);
        int less = x.forms();
        checks.due("run " + run + ": forms() is not above pack()", less <= size ? 1 : 0, 1);
        for (int use = 0; use < 8; use++) {
            form[use] = x.form(use, 0);
        }
        new ReadBackTest(x, n, form).check(checks, kinds, "run " + run + " in the best forms", less);
    }

    private static void join(NeighbourBook x, int n, Random random) {
        int shape = random.nextInt(4);
        for (int a = 0; a < n; a++) {
            boolean alike = a > 0 && random.nextInt(3) > 0;
            int y = a - 1 - (a > 0 ? random.nextInt(Math.min(a, 3)) : 0);
            boolean in = false;
            for (int b = 0; b < n; b++) {
                if (alike) {
                    in = x.has(y, b) == 1 != (random.nextInt(16) == 0 && shape > 0);
                } else {
                    in = random.nextInt(8) < (shape == 1 ? 4 : shape == 2 ? 1 : in ? 7 : 1);
                }
                if (in) {
                    x.pair(a, b);
                }
            }
        }
    }

    private void check(Checks checks, int[] kinds, String where, int size) {
        for (int a = 0; a < n; a++) {
            checks.due(where + ": first bit of " + a, x.told(a, 3), at);
            int kind = number(0);
            kinds[kind]++;
            checks.due(where + ": KIND of " + a, x.told(a, 0), kind);
            rows.add(readRow(a, kind));
            checks.due(where + ": bits of " + a, x.told(a, 4), at - x.told(a, 3));
            for (int b = 0; b < n; b++) {
                checks.due(where + ": " + a + " to " + b, x.has(a, b), rows.get(a).contains(b) ? 1 : 0);
            }
        }
        checks.due(where + ": all bits", at, size);
    }

    private TreeSet<Integer> readRow(int a, int kind) {
        TreeSet<Integer> row = new TreeSet<>();
        switch (kind) {
            case 0:
                readPlain(a, row);
                return row;
            case 1:
                readSpans(a, row);
                return row;
            case 2:
                TreeSet<Integer> ahead = rows.get(a - 1 - number(4));
                readBlocks(ahead, row);
                readSpans(a, row);
                return row;
            case 3:
                return new TreeSet<>(rows.get(a - 1 - number(4)));
            default:
                int first = a + unfolded(number(2));
                int last = first + number(1);
                row.add(first);
                row.add(last);
                for (int b = first + 1; b < last; b++) {
                    if (bit() == 1) {
                        row.add(b);
                    }
                }
                return row;
        }
    }

    private void readPlain(int a, TreeSet<Integer> row) {
        int many = number(1);
        int b = 0;
        for (int i = 0; i < many; i++) {
            b = i == 0 ? a + unfolded(number(2)) : b + 1 + number(3);
            row.add(b);
        }
    }

    private void readSpans(int a, TreeSet<Integer> row) {
        int many = number(1);
        int b = 0;
        for (int i = 0; i < many; i++) {
            b = i == 0 ? a + unfolded(number(6)) : b + 2 + number(3);
            int last = b + number(7) + 2;
            for (; b < last; b++) {
                row.add(b);
            }
            row.add(last);
        }
        readPlain(a, row);
    }

    private void readBlocks(TreeSet<Integer> ahead, TreeSet<Integer> row) {
        List<Integer> left = new ArrayList<>(ahead);
        int many = number(1);
        for (int i = 0; i < many; i++) {
            int size = i == 0 ? number(5) : number(5) + 1;
            if (i % 2 == 0) {
                row.addAll(left.subList(0, size));
            }
            left = left.subList(size, left.size());
        }
        if (many % 2 == 0) {
            row.addAll(left);
        }
    }

    private static int unfolded(int v) {
        return v % 2 == 0 ? v / 2 : -(v + 1) / 2;
    }

    private int bit() {
        return x.bit(at++);
    }

    private int zeros() {
        int zeros = 0;
        while (bit() == 0) {
            zeros++;
        }
        return zeros;
    }

    private int binary(int v, int digits) {
        for (int i = 0; i < digits; i++) {
            v = 2 * v + bit();
        }
        return v;
    }

    private int number(int use) {
        int f = form[use];
        if (f == 0) {
            return zeros();
        }
        if (f == 1) {
            return binary(1, zeros()) - 1;
        }
        if (f == 2) {
            return binary(1, binary(1, zeros()) - 1) - 1;
        }
        return binary(zeros(), f - 3);
    }
}
