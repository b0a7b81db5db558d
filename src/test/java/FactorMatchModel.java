import java.util.ArrayDeque;
import java.util.ArrayList;
import java.util.Deque;
import java.util.HashMap;
import java.util.List;
import java.util.Map;

/** The document's words once more, in the plainest and slowest form, to compare with. */
final class FactorMatchModel {
    /** More matchers than this are counted, but not listed. */
    private static final int LISTED = 40000;

    // what was worked out once; the model is slow without
    private static final Map<String, List<int[]>> SOLUTIONS = new HashMap<>();
    private static final Map<String, List<int[]>> LEASTS = new HashMap<>();
    private static final Map<String, Integer> SUMS = new HashMap<>();

    int[][] products = new int[3][8];
    int[] settings = {1, 9};
    String buffer = "";
    int[][][] snapshots = new int[2][][];
    Deque<int[][]> saved = new ArrayDeque<>();

    // ---- matchers

    boolean has(int pattern, int variable) {
        return products[pattern][4 + variable] > 0;
    }

    int rest(int constant) {
        return products[2][constant] - products[0][constant];
    }

    private String variables(int pattern) {
        int[] p = products[pattern];
        return " " + p[4] + p[5] + p[6] + p[7];
    }

    List<int[]> solutions(int rest) {
        return SOLUTIONS.computeIfAbsent(rest + variables(0) + settings[1], k -> workOutSolutions(rest));
    }

    private List<int[]> workOutSolutions(int rest) {
        List<int[]> all = new ArrayList<>();
        int m = settings[1];
        for (int i = 0; i < 10000; i++) {
            int[] n = {i / 1000, i / 100 % 10, i / 10 % 10, i % 10};
            int sum = 0;
            boolean fits = true;
            for (int v = 0; v < 4; v++) {
                sum += n[v] * products[0][4 + v];
                fits &= n[v] <= m && (n[v] == 0 || has(0, v));
            }
            if (fits && sum == rest) {
                all.add(n);
            }
        }
        return all;
    }

    List<List<int[]>> allSolutions(int constant, int by) {
        List<List<int[]>> all = new ArrayList<>();
        for (int c = 0; c < 4; c++) {
            all.add(solutions(rest(c) + (c == constant ? by : 0)));
        }
        return all;
    }

    /** Counted forward, by the sets of variables whose values have factors so far. */
    long matchers(int constant, int by) {
        long[] now = new long[16];
        now[0] = 1;
        for (List<int[]> rows : allSolutions(constant, by)) {
            long[] then = new long[16];
            for (int s = 0; s < 16; s++) {
                for (int[] row : rows) {
                    then[s | set(row)] += now[s];
                }
            }
            now = then;
        }
        long all = 0;
        for (int s = 0; s < 16; s++) {
            all += settings[0] == 1 || s == pattern() ? now[s] : 0;
        }
        return all;
    }

    private static int set(int[] row) {
        int s = 0;
        for (int v = 0; v < 4; v++) {
            s |= row[v] > 0 ? 1 << v : 0;
        }
        return s;
    }

    private int pattern() {
        int s = 0;
        for (int v = 0; v < 4; v++) {
            s |= has(0, v) ? 1 << v : 0;
        }
        return s;
    }

    /** All matchers in order, or the first ones, or null where it would take too long; [constant][variable]. */
    List<int[][]> firstMatchers(int most) {
        List<List<int[]>> rows = allSolutions(0, 0);
        List<int[][]> all = new ArrayList<>();
        int looked = 0;
        for (int[] a : rows.get(0)) {
            for (int[] b : rows.get(1)) {
                for (int[] c : rows.get(2)) {
                    for (int[] d : rows.get(3)) {
                        if (all.size() >= most) {
                            return all;
                        }
                        if (++looked > LISTED) {
                            return null;
                        }
                        if (settings[0] == 1 || (set(a) | set(b) | set(c) | set(d)) == pattern()) {
                            all.add(new int[][] {a, b, c, d});
                        }
                    }
                }
            }
        }
        return all;
    }

    int shortest(int variable, List<int[][]> first) {
        int best = -1;
        int fewest = 0;
        for (int m = 0; m < 20 && m < first.size() && has(0, variable); m++) {
            int all = 0;
            for (int c = 0; c < 4; c++) {
                all += first.get(m)[c][variable];
            }
            if (best < 0 || all < fewest) {
                best = m;
                fewest = all;
            }
        }
        return best;
    }

    boolean foreign() {
        boolean is = false;
        for (int v = 0; v < 4; v++) {
            is |= has(1, v) && !has(0, v);
        }
        return is;
    }

    int rewritten(int[][] matcher, int constant) {
        int all = products[1][constant];
        for (int v = 0; v < 4; v++) {
            all += products[1][4 + v] * matcher[constant][v];
        }
        return all;
    }

    // ---- two patterns

    List<int[]> leasts() {
        return LEASTS.computeIfAbsent(variables(0) + variables(1), k -> workOutLeasts());
    }

    int sums(int[] row) {
        String key = variables(0) + variables(1) + " " + row[0] + row[1] + row[2] + row[3];
        Integer known = SUMS.get(key);
        if (known == null) {
            known = sums(leasts(), 0, row);
            SUMS.put(key, known);
        }
        return known;
    }

    private List<int[]> workOutLeasts() {
        List<int[]> solved = new ArrayList<>();
        for (int i = 1; i < 2401; i++) {
            int[] n = {i / 343, i / 49 % 7, i / 7 % 7, i % 7};
            int sum = 0;
            for (int v = 0; v < 4; v++) {
                sum += n[v] * (products[0][4 + v] - products[1][4 + v]);
            }
            if (sum == 0) {
                solved.add(n);
            }
        }
        List<int[]> all = new ArrayList<>();
        for (int[] one : solved) {
            boolean least = true;
            for (int i = 0; i < solved.size() && least; i++) {
                int[] other = solved.get(i);
                least = other == one || !(other[0] <= one[0] && other[1] <= one[1] && other[2] <= one[2]
                        && other[3] <= one[3]);
            }
            if (least) {
                all.add(one);
            }
        }
        return all;
    }

    private static int sums(List<int[]> leasts, int from, int[] left) {
        if (from == leasts.size()) {
            return left[0] + left[1] + left[2] + left[3] == 0 ? 1 : 0;
        }
        int all = 0;
        int[] now = left.clone();
        while (now[0] >= 0 && now[1] >= 0 && now[2] >= 0 && now[3] >= 0) {
            all += sums(leasts, from + 1, now);
            for (int v = 0; v < 4; v++) {
                now[v] -= leasts.get(from)[v];
            }
        }
        return all;
    }

    // ---- numbers

    int factors(int product) {
        int all = 0;
        for (int n : products[product]) {
            all += n;
        }
        return all;
    }

    int count(int what) {
        List<int[]> leasts = leasts();
        int greatest = 0;
        for (int[] n : leasts) {
            greatest = Math.max(greatest, n[0] + n[1] + n[2] + n[3]);
        }
        int below = 0;
        int common = 0;
        for (int c = 0; c < 4; c++) {
            below += rest(c) < 0 ? 1 : 0;
            common += Math.min(products[0][c], Math.min(products[1][c], products[2][c]));
        }
        int same = java.util.Arrays.equals(products[0], products[1]) ? 1 : 0;
        int taken = (snapshots[0] != null ? 1 : 0) + (snapshots[1] != null ? 1 : 0);
        int[] all = {factors(0), factors(1), factors(2), Integer.bitCount(pattern()), leasts.size(), greatest, below,
            same, common, taken, saved.size()};
        return all[what];
    }

    double openShare() {
        int open = 0;
        boolean below = false;
        for (int c = 0; c < 4; c++) {
            open += rest(c);
            below |= rest(c) < 0;
        }
        return below || factors(2) == 0 ? 0.0 : (double) open / factors(2);
    }

    /** Null where the first matchers take too long. */
    Long digest() {
        List<int[][]> first = firstMatchers(20);
        if (first == null) {
            return null;
        }
        List<Long> all = new ArrayList<>();
        for (int what = 0; what <= 10; what++) {
            all.add((long) count(what));
        }
        all.add((long) settings[0]);
        all.add((long) settings[1]);
        for (int[] product : products) {
            for (int n : product) {
                all.add((long) n);
            }
        }
        for (int c = 0; c < 4; c++) {
            all.add((long) rest(c));
            all.add((long) solutions(rest(c)).size());
            all.add(matchers(c, 1));
        }
        all.add(matchers(0, 0));
        all.add(matchers(0, 0));
        for (int m = 0; m < 3 && m < first.size(); m++) {
            for (int v = 0; v < 4; v++) {
                for (int c = 0; c < 4; c++) {
                    all.add(has(0, v) ? (long) first.get(m)[c][v] : -1L);
                }
            }
            for (int c = 0; c < 4; c++) {
                all.add(foreign() ? -1L : (long) rewritten(first.get(m), c));
            }
        }
        List<int[]> leasts = leasts();
        for (int place = 0; place < 4; place++) {
            for (int v = 0; v < 4; v++) {
                all.add(place < leasts.size() ? (long) leasts.get(place)[v] : -1L);
            }
        }
        all.add((long) sums(new int[] {2, 2, 2, 2}));
        for (int v = 0; v < 4; v++) {
            all.add((long) shortest(v, first));
        }
        all.add(Double.doubleToLongBits(openShare()));
        all.add((long) buffer.length());
        for (int i = 0; i < buffer.length(); i++) {
            all.add((long) buffer.charAt(i));
        }
        long hash = 2593;
        for (long v : all) {
            hash = 31 * hash + v;
        }
        return hash;
    }

    // ---- texts

    int firstError() {
        for (int i = 0; i < buffer.length(); i++) {
            if (!buffer.substring(0, i + 1).matches("1|([a-dw-z][2-9]?)*")) {
                return i;
            }
        }
        return buffer.length();
    }

    boolean isText() {
        return buffer.matches("1|([a-dw-z][2-9]?)+");
    }

    int[] told() {
        int[] row = new int[8];
        java.util.regex.Matcher m = java.util.regex.Pattern.compile("([a-dw-z])([2-9]?)").matcher(buffer);
        while (m.find()) {
            row["abcdwxyz".indexOf(m.group(1))] += m.group(2).isEmpty() ? 1 : Integer.parseInt(m.group(2));
        }
        return row;
    }

    // ---- changes

    void save() {
        saved.addLast(new int[][] {products[0].clone(), products[1].clone(), products[2].clone(), settings.clone()});
        if (saved.size() > 6) {
            saved.removeFirst();
        }
    }

    void undo() {
        int[][] was = saved.removeLast();
        products = new int[][] {was[0], was[1], was[2]};
        settings = was[3];
    }

    boolean fits(int product, int[] row) {
        boolean fits = true;
        for (int f = 0; f < 8; f++) {
            fits &= row[f] <= (f < 4 ? 9 : product == 2 ? 0 : 5);
        }
        return fits;
    }

    int all() {
        return factors(0) + factors(1) + factors(2);
    }
}
