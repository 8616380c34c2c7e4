import java.util.ArrayList;
import java.util.Arrays;
import java.util.Comparator;
import java.util.List;
import java.util.TreeSet;

/**
 * The document once more, in the slowest and plainest way: rows as sets, bits as texts. It shares
 * nothing with the program, so that a slip of one is not a slip of both.
 */
final class Model {
    static final int NONE = -1, BAD = -2, STATE = -3, FULL = -4;

    /** A number with its USE; USE 8 is a bit that stands for itself. */
    record Number(int use, int v) { }

    /** How a row is told: KIND, k, DEPTH and the numbers. */
    record Told(int kind, int k, int depth, List<Number> numbers) { }

    final int n;
    List<TreeSet<Integer>> rows = new ArrayList<>();
    final int[] form = {1, 1, 1, 1, 1, 1, 1, 1};
    int w = 3, r = 2, s = 4;

    List<TreeSet<Integer>> bookRows = null;
    List<Told> book = null;
    List<String> bookBits = null;
    int bookStep = 0;
    StringBuilder bits = null;

    Model(int n) {
        this.n = n < 1 ? 1 : n > 48 ? 48 : n;
        for (int i = 0; i < this.n; i++) {
            rows.add(new TreeSet<>());
        }
    }

    private boolean no(int a) {
        return a < 0 || a >= n;
    }

    // ---- pairs

    int pair(int a, int b) {
        if (no(a) || no(b)) return BAD;
        if (rows.get(a).contains(b)) return 0;
        if (book != null && patches() == 40 && !bookRows.get(a).contains(b)) return FULL;
        rows.get(a).add(b);
        return 1;
    }

    int drop(int a, int b) {
        if (no(a) || no(b)) return BAD;
        if (!rows.get(a).contains(b)) return 0;
        if (book != null && patches() == 40 && bookRows.get(a).contains(b)) return FULL;
        rows.get(a).remove(b);
        return 1;
    }

    private int patches() {
        if (book == null) return 0;
        int sum = 0;
        for (int a = 0; a < n; a++) {
            for (int b = 0; b < n; b++) {
                if (rows.get(a).contains(b) != bookRows.get(a).contains(b)) sum++;
            }
        }
        return sum;
    }

    int has(int a, int b) {
        return no(a) || no(b) ? BAD : rows.get(a).contains(b) ? 1 : 0;
    }

    int next(int a, int b) {
        if (no(a) || b < 0) return BAD;
        Integer c = rows.get(a).ceiling(b);
        return c == null ? NONE : c;
    }

    int degree(int a, int way) {
        if (no(a) || way < 0 || way > 1) return BAD;
        return way == 0 ? rows.get(a).size() : fans(a).size();
    }

    private List<Integer> fans(int a) {
        List<Integer> fans = new ArrayList<>();
        for (int i = 0; i < n; i++) {
            if (rows.get(i).contains(a)) fans.add(i);
        }
        return fans;
    }

    int meet(int a, int b) {
        if (no(a) || no(b)) return BAD;
        TreeSet<Integer> both = new TreeSet<>(rows.get(a));
        both.retainAll(rows.get(b));
        return both.size();
    }

    int back(int a, int k) {
        if (no(a)) return BAD;
        List<Integer> fans = fans(a);
        return k < 0 || k >= fans.size() ? NONE : fans.get(k);
    }

    // ---- packing

    int form(int use, int f) {
        if (use < 0 || use > 7 || f < 0 || f > 9) return BAD;
        int was = form[use];
        form[use] = f;
        return was;
    }

    int setting(int what, int v) {
        int was;
        if (what == 0 && v >= 0 && v <= 7) {
            was = w;
            w = v;
        } else if (what == 1 && v >= 0 && v <= 5) {
            was = r;
            r = v;
        } else if (what == 2 && v >= 1 && v <= 9) {
            was = s;
            s = v;
        } else {
            return BAD;
        }
        return was;
    }

    static String written(int f, int v) {
        String binary = Integer.toBinaryString(v + 1);
        if (f == 0) return "0".repeat(v) + "1";
        if (f == 1) return "0".repeat(binary.length() - 1) + binary;
        if (f == 2) return written(1, binary.length() - 1) + binary.substring(1);
        int step = 1 << (f - 3);
        String low = "";
        for (int i = 1; i < step; i *= 2) {
            low = (v / i % 2) + low;
        }
        return written(0, v / step) + low;
    }

    int length(int f, int v) {
        if (f < 0 || f > 9 || v < 0 || v > 100000) return BAD;
        return written(f, v).length();
    }

    private static int fold(int v) {
        return v >= 0 ? 2 * v : 2 * -v - 1;
    }

    private static void plain(int x, List<Integer> row, List<Number> out) {
        out.add(new Number(1, row.size()));
        for (int i = 0; i < row.size(); i++) {
            out.add(i == 0 ? new Number(2, fold(row.get(0) - x)) : new Number(3, row.get(i) - row.get(i - 1) - 1));
        }
    }

    private static void spans(int x, List<Integer> row, List<Number> out) {
        List<int[]> spans = new ArrayList<>();
        List<Integer> others = new ArrayList<>();
        int i = 0;
        while (i < row.size()) {
            int j = i;
            while (j + 1 < row.size() && row.get(j + 1) == row.get(j) + 1) j++;
            if (j - i + 1 >= 3) {
                spans.add(new int[] {row.get(i), row.get(j)});
            } else {
                others.addAll(row.subList(i, j + 1));
            }
            i = j + 1;
        }
        out.add(new Number(1, spans.size()));
        for (int q = 0; q < spans.size(); q++) {
            int[] span = spans.get(q);
            out.add(q == 0 ? new Number(6, fold(span[0] - x)) : new Number(3, span[0] - spans.get(q - 1)[1] - 2));
            out.add(new Number(7, span[1] - span[0] + 1 - 3));
        }
        plain(x, others, out);
    }

    private static void blocks(TreeSet<Integer> row, TreeSet<Integer> ahead, List<Number> out) {
        List<Integer> sizes = new ArrayList<>();
        List<Integer> rest = new ArrayList<>(ahead);
        boolean in = true;
        do {
            int size = 0;
            while (!rest.isEmpty() && row.contains(rest.get(0)) == in) {
                rest.remove(0);
                size++;
            }
            sizes.add(size);
            in = !in;
        } while (!rest.isEmpty());
        out.add(new Number(1, sizes.size() - 1));
        for (int i = 0; i < sizes.size() - 1; i++) {
            out.add(new Number(5, i == 0 ? sizes.get(0) : sizes.get(i) - 1));
        }
    }

    /** The numbers of a telling, or null where there is none. */
    private static List<Number> tell(List<TreeSet<Integer>> rows, int x, int kind, int k) {
        TreeSet<Integer> row = rows.get(x);
        List<Number> out = new ArrayList<>();
        out.add(new Number(0, kind));
        if (kind == 0) {
            plain(x, new ArrayList<>(row), out);
        } else if (kind == 1) {
            spans(x, new ArrayList<>(row), out);
        } else if (kind == 2) {
            out.add(new Number(4, k - 1));
            blocks(row, rows.get(x - k), out);
            TreeSet<Integer> rest = new TreeSet<>(row);
            rest.removeAll(rows.get(x - k));
            spans(x, new ArrayList<>(rest), out);
        } else if (kind == 3) {
            if (!row.equals(rows.get(x - k))) return null;
            out.add(new Number(4, k - 1));
        } else {
            if (row.isEmpty()) return null;
            out.add(new Number(2, fold(row.first() - x)));
            out.add(new Number(1, row.last() - row.first()));
            for (int b = row.first() + 1; b < row.last(); b++) {
                out.add(new Number(8, row.contains(b) ? 1 : 0));
            }
        }
        return out;
    }

    private String text(List<Number> numbers) {
        StringBuilder out = new StringBuilder();
        for (Number number : numbers) {
            out.append(number.use == 8 ? Integer.toString(number.v) : written(form[number.use], number.v));
        }
        return out.toString();
    }

    int cost(int a, int kind, int k) {
        if (no(a) || kind < 0 || kind > 4) return BAD;
        if ((kind == 2 || kind == 3) && (k < 1 || no(a - k))) return BAD;
        List<Number> numbers = tell(rows, a, kind, k);
        return numbers == null ? STATE : text(numbers).length();
    }

    int pack() {
        bookRows = new ArrayList<>();
        for (TreeSet<Integer> row : rows) {
            bookRows.add(new TreeSet<>(row));
        }
        book = new ArrayList<>();
        bookStep = s;
        for (int x = 0; x < n; x++) {
            List<Told> all = new ArrayList<>();
            for (int kind : new int[] {0, 1, 4}) {
                List<Number> numbers = tell(bookRows, x, kind, 0);
                if (numbers != null) all.add(new Told(kind, 0, 0, numbers));
            }
            for (int k = 1; k <= w && x - k >= 0; k++) {
                int depth = book.get(x - k).depth + 1;
                for (int kind = 2; kind <= 3 && depth <= r; kind++) {
                    List<Number> numbers = tell(bookRows, x, kind, k);
                    if (numbers != null) all.add(new Told(kind, k, depth, numbers));
                }
            }
            all.sort(Comparator.<Told>comparingInt(t -> text(t.numbers).length())
                .thenComparingInt(Told::kind).thenComparingInt(Told::k));
            book.add(all.get(0));
        }
        return write();
    }

    private int write() {
        bookBits = new ArrayList<>();
        for (Told told : book) {
            bookBits.add(text(told.numbers));
        }
        bits = new StringBuilder(String.join("", bookBits));
        while (bits.length() % 8 != 0) {
            bits.append('0');
        }
        return size();
    }

    private int size() {
        return startOf(n);
    }

    private int startOf(int x) {
        int sum = 0;
        for (int i = 0; i < x; i++) {
            sum += bookBits.get(i).length();
        }
        return sum;
    }

    int told(int a, int what) {
        if (no(a) || what < 0 || what > 4) return BAD;
        if (book == null) return STATE;
        Told told = book.get(a);
        return new int[] {told.kind, told.k, told.depth, startOf(a), bookBits.get(a).length()}[what];
    }

    int looked(int a) {
        if (no(a)) return BAD;
        if (book == null) return STATE;
        int from = 0;
        for (int x = 0; x <= a; x += bookStep) {
            from = x;
        }
        int own = startOf(a + 1) - startOf(from);
        return book.get(a).k == 0 ? own : own + looked(a - book.get(a).k);
    }

    int would(int use, int f) {
        if (use < 0 || use > 7 || f < 0 || f > 9) return BAD;
        if (book == null) return STATE;
        int sum = 0;
        for (Told told : book) {
            for (Number number : told.numbers) {
                if (number.use == use) sum += written(f, number.v).length();
            }
        }
        return sum;
    }

    int forms() {
        if (book == null || patches() > 0) return STATE;
        for (int use = 0; use < 8; use++) {
            form[use] = 0;
            for (int f = 0; f < 10; f++) {
                if (would(use, f) < would(use, form[use])) form[use] = f;
            }
        }
        return write();
    }

    int best() {
        int[] alone = new int[n];
        int[] copied = new int[n];
        int[] from = new int[n];
        for (int x = 0; x < n; x++) {
            alone[x] = Math.min(cost(x, 0, 0), cost(x, 1, 0));
            if (!rows.get(x).isEmpty()) alone[x] = Math.min(alone[x], cost(x, 4, 0));
            from[x] = NONE;
            for (int k = 1; k <= w && k <= x; k++) {
                int bits = cost(x, 2, k);
                if (cost(x, 3, k) >= 0) bits = Math.min(bits, cost(x, 3, k));
                if (from[x] == NONE || bits < copied[x]) {
                    from[x] = x - k;
                    copied[x] = bits;
                }
            }
        }
        return n <= 9 ? bestOfAll(alone, copied, from) : bestOfTrees(alone, copied, from);
    }

    /** Tries each way to say which rows are copied. */
    private int bestOfAll(int[] alone, int[] copied, int[] from) {
        int least = Integer.MAX_VALUE;
        for (int which = 0; which < 1 << n; which++) {
            int sum = 0;
            int[] depth = new int[n];
            boolean fits = true;
            for (int x = 0; x < n; x++) {
                boolean copies = (which >> x & 1) == 1;
                if (copies && from[x] == NONE) {
                    fits = false;
                    break;
                }
                depth[x] = copies ? depth[from[x]] + 1 : 0;
                sum += copies ? copied[x] : alone[x];
                fits &= depth[x] <= r;
            }
            if (fits) least = Math.min(least, sum);
        }
        return least;
    }

    private int bestOfTrees(int[] alone, int[] copied, int[] from) {
        int sum = 0;
        for (int x = 0; x < n; x++) {
            if (from[x] == NONE) sum += bestBelow(x, 0, alone, copied, from);
        }
        return sum;
    }

    private int bestBelow(int x, int depth, int[] alone, int[] copied, int[] from) {
        int[][] known = new int[n][7];
        for (int[] row : known) {
            Arrays.fill(row, -1);
        }
        return bestBelow(x, depth, alone, copied, from, known);
    }

    private int bestBelow(int x, int depth, int[] alone, int[] copied, int[] from, int[][] known) {
        if (known[x][depth] >= 0) return known[x][depth];
        int sum = depth == 0 ? alone[x] : copied[x];
        for (int c = x + 1; c < n; c++) {
            if (from[c] == x) {
                int least = bestBelow(c, 0, alone, copied, from, known);
                if (depth < r) least = Math.min(least, bestBelow(c, depth + 1, alone, copied, from, known));
                sum += least;
            }
        }
        known[x][depth] = sum;
        return sum;
    }

    // ---- bits

    int bit(int i) {
        return book == null || i < 0 || i >= size() ? NONE : bits.charAt(i) - '0';
    }

    int place(int i) {
        if (book == null || i < 0) return NONE;
        List<Integer> places = places();
        return i >= places.size() ? NONE : places.get(i);
    }

    private List<Integer> places() {
        List<Integer> places = new ArrayList<>();
        for (int x = 0; x < n; x += bookStep) {
            places.add(startOf(x));
        }
        return places;
    }

    long sum() {
        if (book == null) return STATE;
        long h = 1;
        for (int i = 0; i < bits.length(); i += 8) {
            h = h * 33 + Integer.parseInt(bits.substring(i, i + 8), 2);
        }
        return h;
    }

    int alter(int i, int mask) {
        if (book == null) return STATE;
        if (i < 0 || i >= bits.length() / 8 || mask < 1 || mask > 255) return BAD;
        int was = Integer.parseInt(bits.substring(8 * i, 8 * i + 8), 2);
        int is = was ^ mask;
        bits.replace(8 * i, 8 * i + 8, Integer.toBinaryString(256 + is).substring(1));
        return is;
    }

    int judge() {
        if (book == null) return STATE;
        for (int x = 0; x < n; x++) {
            if (!bits.substring(startOf(x), startOf(x + 1)).equals(bookBits.get(x))) return x;
        }
        return bits.substring(size()).contains("1") ? n : NONE;
    }

    // ---- orders, walks

    private List<Integer> ordered(int order) {
        List<Integer> line = new ArrayList<>();
        if (order == 1) {
            int followed = 0;
            for (int least = 0; least < n; least++) {
                if (!line.contains(least)) line.add(least);
                while (followed < line.size()) {
                    for (int b : rows.get(line.get(followed))) {
                        if (!line.contains(b)) line.add(b);
                    }
                    followed++;
                }
            }
            return line;
        }
        for (int x = 0; x < n; x++) {
            line.add(x);
        }
        if (order == 0) {
            line.sort(Comparator.<Integer>comparingInt(x -> -rows.get(x).size()).thenComparingInt(x -> x));
        } else {
            line.sort(Comparator.<Integer>comparingInt(this::key).thenComparingInt(x -> x));
        }
        return line;
    }

    private int key(int x) {
        int least = 1024;
        for (int b : rows.get(x)) {
            least = Math.min(least, b * 40503 % 65536 / 64);
        }
        return least;
    }

    int order(int order, int i) {
        if (order < 0 || order > 2) return BAD;
        return no(i) ? NONE : ordered(order).get(i);
    }

    int renumber(int order) {
        if (order < 0 || order > 2) return BAD;
        List<Integer> line = ordered(order);
        List<TreeSet<Integer>> fresh = new ArrayList<>();
        int lesser = 0;
        for (int i = 0; i < n; i++) {
            TreeSet<Integer> row = new TreeSet<>();
            for (int b : rows.get(line.get(i))) {
                row.add(line.indexOf(b));
                if (line.indexOf(b) < i) lesser++;
            }
            fresh.add(row);
        }
        rows = fresh;
        book = null;
        return lesser;
    }

    private boolean near(int a, int b) {
        return rows.get(a).contains(b) || rows.get(b).contains(a);
    }

    int threes() {
        int sum = 0;
        for (int a = 0; a < n; a++) {
            for (int b = 0; b < a; b++) {
                for (int c = 0; c < b; c++) {
                    if (near(a, b) && near(a, c) && near(b, c)) sum++;
                }
            }
        }
        return sum;
    }

    int parts(int a) {
        if (a != NONE && no(a)) return BAD;
        int[] name = new int[n];
        for (int x = 0; x < n; x++) {
            name[x] = x;
        }
        for (int x = 0; x < n; x++) {
            for (int y : rows.get(x)) {
                int old = name[y];
                for (int z = 0; z < n; z++) {
                    if (name[z] == old) name[z] = name[x];
                }
            }
        }
        if (a == NONE) return (int) Arrays.stream(name).distinct().count();
        return (int) Arrays.stream(name).filter(z -> z == name[a]).count();
    }

    int far(int a, int b) {
        if (no(a) || no(b)) return BAD;
        int[] far = new int[n];
        Arrays.fill(far, n);
        far[a] = 0;
        for (int round = 0; round < n; round++) {
            for (int x = 0; x < n; x++) {
                for (int y : rows.get(x)) {
                    far[y] = Math.min(far[y], far[x] + 1);
                }
            }
        }
        return far[b] >= n ? NONE : far[b];
    }

    int count(int what) {
        switch (what) {
            case 0: return n;
            case 1: return rows.stream().mapToInt(TreeSet::size).sum();
            case 2: return patches();
            case 3: return book == null ? 0 : size();
            case 4: return book == null ? 0 : places().size();
            case 5: return book == null ? 0 : (int) book.stream().filter(t -> t.kind == 2 || t.kind == 3).count();
            case 6: return book == null ? 0 : book.stream().mapToInt(Told::depth).max().orElse(0);
            default: return BAD;
        }
    }
}
