import java.util.ArrayList;
import java.util.List;
import java.util.Random;
import java.util.TreeSet;

/** Reads the rows back from nothing but the bits and the forms: what is written can be read. */
public final class ReadBackTest {
    private static final int RUNS = 1500;
    private static final int MOST_CALLS = 512;

    private final NeighbourBook x;
    private final int n;
    private final int[] form;
    private final List<TreeSet<Integer>> rows = new ArrayList<>();
    private int at = 0;

    private ReadBackTest(NeighbourBook x, int n, int[] form) {
        this.x = x;
        this.n = n;
        this.form = form;
    }

    public static void main(String[] args) {
        Checks checks = new Checks();
        int[] kinds = new int[5];
        for (int run = 0; run < RUNS; run++) {
            play(checks, kinds, run, false);
            play(checks, kinds, run, true);
        }
        for (int kind = 0; kind < 5; kind++) {
            checks.due("at least 100 rows of KIND " + kind + " were read", Math.min(100, kinds[kind]), 100);
        }
        checks.end();
    }

    private static void play(Checks checks, int[] kinds, int run, boolean bestForms) {
        Random random = new Random(run);
        int n = 1 + random.nextInt(48);
        NeighbourBook x = new NeighbourBook(n);
        int[] form = new int[8];
        for (int use = 0; use < 8; use++) {
            form[use] = random.nextInt(run % 2 == 0 ? 10 : 3);
            x.form(use, form[use]);
        }
        x.setting(0, random.nextInt(8));
        x.setting(1, random.nextInt(6));
        List<TreeSet<Integer>> wanted = rowsFor(n, random);
        int calls = 8 + 2 + wanted.stream().mapToInt(TreeSet::size).sum() + 1;
        // Beyond these calls the document promises nothing, so such a book is not packed, nor a long one read.
        if (calls + 9 > MOST_CALLS) {
            return;
        }
        join(x, wanted);
        int size = x.pack();
        if (bestForms) {
            int less = x.forms();
            checks.due("run " + run + ": forms() is not above pack()", Math.max(less, size), size);
            size = less;
            for (int use = 0; use < 8; use++) {
                form[use] = x.form(use, 0);
            }
        }
        if (calls + 9 + n + size <= MOST_CALLS) {
            new ReadBackTest(x, n, form).check(checks, kinds, "run " + run, wanted, size);
        }
    }

    private static List<TreeSet<Integer>> rowsFor(int n, Random random) {
        List<TreeSet<Integer>> rows = new ArrayList<>();
        int shape = random.nextInt(4);
        for (int a = 0; a < n; a++) {
            boolean alike = a > 0 && random.nextInt(3) > 0;
            int y = alike ? a - 1 - random.nextInt(Math.min(a, 3)) : 0;
            TreeSet<Integer> row = new TreeSet<>();
            boolean in = false;
            for (int b = 0; b < n; b++) {
                if (alike) {
                    in = rows.get(y).contains(b) != (random.nextInt(16) == 0 && shape > 0);
                } else {
                    in = random.nextInt(16) < (shape == 1 ? 8 : shape == 2 ? 1 : in ? 13 : 1);
                }
                if (in) {
                    row.add(b);
                }
            }
            rows.add(row);
        }
        return rows;
    }

    private static void join(NeighbourBook x, List<TreeSet<Integer>> rows) {
        for (int a = 0; a < rows.size(); a++) {
            for (int b : rows.get(a)) {
                x.pair(a, b);
            }
        }
    }

    private void check(Checks checks, int[] kinds, String where, List<TreeSet<Integer>> wanted, int size) {
        for (int a = 0; a < n; a++) {
            checks.due(where + ": first bit of " + a, x.told(a, 3), at);
            int kind = number(0);
            checks.due(where + ": a KIND of " + a, Math.min(4, kind), kind);
            kinds[Math.min(4, kind)]++;
            rows.add(readRow(a, kind));
            checks.due(where + ": the row of " + a, rows.get(a).equals(wanted.get(a)) ? 1 : 0, 1);
        }
        checks.due(where + ": all bits", at, size);
    }

    private TreeSet<Integer> readRow(int a, int kind) {
        TreeSet<Integer> row = new TreeSet<>();
        switch (kind) {
            case 0:
                readPlain(a, row);
                return row;
            case 1:
                readSpans(a, row);
                return row;
            case 2:
                TreeSet<Integer> ahead = rows.get(a - 1 - number(4));
                readBlocks(ahead, row);
                readSpans(a, row);
                return row;
            case 3:
                return new TreeSet<>(rows.get(a - 1 - number(4)));
            default:
                int first = a + unfolded(number(2));
                int last = first + number(1);
                row.add(first);
                row.add(last);
                for (int b = first + 1; b < last; b++) {
                    if (bit() == 1) {
                        row.add(b);
                    }
                }
                return row;
        }
    }

    private void readPlain(int a, TreeSet<Integer> row) {
        int many = number(1);
        int b = 0;
        for (int i = 0; i < many; i++) {
            b = i == 0 ? a + unfolded(number(2)) : b + 1 + number(3);
            row.add(b);
        }
    }

    private void readSpans(int a, TreeSet<Integer> row) {
        int many = number(1);
        int b = 0;
        for (int i = 0; i < many; i++) {
            b = i == 0 ? a + unfolded(number(6)) : b + 2 + number(3);
            int last = b + number(7) + 2;
            for (; b < last; b++) {
                row.add(b);
            }
            row.add(last);
        }
        readPlain(a, row);
    }

    private void readBlocks(TreeSet<Integer> ahead, TreeSet<Integer> row) {
        List<Integer> left = new ArrayList<>(ahead);
        int many = number(1);
        for (int i = 0; i < many; i++) {
            int size = i == 0 ? number(5) : number(5) + 1;
            if (i % 2 == 0) {
                row.addAll(left.subList(0, size));
            }
            left = left.subList(size, left.size());
        }
        if (many % 2 == 0) {
            row.addAll(left);
        }
    }

    private static int unfolded(int v) {
        return v % 2 == 0 ? v / 2 : -(v + 1) / 2;
    }

    private int bit() {
        return x.bit(at++);
    }

    private int zeros() {
        int zeros = 0;
        while (bit() == 0) {
            zeros++;
        }
        return zeros;
    }

    private int binary(int v, int digits) {
        for (int i = 0; i < digits; i++) {
            v = 2 * v + bit();
        }
        return v;
    }

    private int number(int use) {
        int f = form[use];
        if (f == 0) {
            return zeros();
        }
        if (f == 1) {
            return binary(1, zeros()) - 1;
        }
        if (f == 2) {
            return binary(1, binary(1, zeros()) - 1) - 1;
        }
        return binary(zeros(), f - 3);
    }
}
