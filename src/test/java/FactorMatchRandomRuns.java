import java.util.List;
import java.util.Random;

/** Long runs of calls, right and wrong ones, each answer compared with the model's. The seed is fixed. */
final class FactorMatchRandomRuns {
    private static final String BOUNDS = "throws IndexOutOfBoundsException";
    private static final String ARGUMENT = "throws IllegalArgumentException";
    private static final String STATE = "throws IllegalStateException";
    private static final String SIGNS = "abcdwxyz123456789aabbccddwwxxyyzz0e/~!-";

    private final Random random;
    private final FactorMatch x = new FactorMatch();
    private final FactorMatchModel m = new FactorMatchModel();
    private String run;

    private FactorMatchRandomRuns(int seed) {
        random = new Random(seed);
        run = "seed " + seed;
    }

    public static void main(String[] args) {
        for (int seed = 0; seed < 250; seed++) {
            FactorMatchRandomRuns r = new FactorMatchRandomRuns(seed);
            for (int i = 0; i < 250; i++) {
                r.step(i);
            }
        }
        Check.end();
    }

    /** Mostly in 0 to below end, sometimes beside it. */
    private int pick(int end) {
        return random.nextInt(30) == 0 ? random.nextBoolean() ? -1 - random.nextInt(3) : end + random.nextInt(3)
                : random.nextInt(end);
    }

    private void due(String call, Check.Call got, Object due) {
        Check.same(run + ": " + call, Check.answer(got), due);
    }

    private static boolean out(int n, int end) {
        return n < 0 || n >= end;
    }

    private void step(int i) {
        run = run.replaceAll(", call.*", "") + ", call " + i;
        int kind = random.nextInt(29);
        if (kind < 12) {
            change(kind);
        } else if (kind < 17) {
            textOrSnapshot(kind);
        } else {
            look(kind);
        }
        if (i % 4 == 0) {
            Long digest = m.digest();
            if (digest != null) {
                due("digest()", () -> x.digest(), digest);
            }
        }
    }

    private void change(int kind) {
        int a = pick(3);
        int b = pick(3);
        switch (kind) {
            case 0:
            case 1:
            case 2:
            case 3: {
                int c = pick(4);
                int p = kind < 2 ? 2 : a;
                int t = p == 2 ? pick(10) : random.nextInt(4) == 0 ? pick(10) : pick(4);
                Object due = out(p, 3) || out(c, 4) ? BOUNDS : out(t, 10) ? ARGUMENT : (Object) m.products[p][c];
                due("constant(" + p + "," + c + "," + t + ")", () -> x.constant(p, c, t), due);
                if (due instanceof Integer) {
                    m.save();
                    m.products[p][c] = t;
                }
                return;
            }
            case 4:
            case 5:
            case 6: {
                int p = pick(2);
                int v = pick(4);
                int t = pick(6);
                Object due = out(p, 2) || out(v, 4) ? BOUNDS : out(t, 6) ? ARGUMENT : (Object) m.products[p][4 + v];
                due("variable(" + p + "," + v + "," + t + ")", () -> x.variable(p, v, t), due);
                if (due instanceof Integer) {
                    m.save();
                    m.products[p][4 + v] = t;
                }
                return;
            }
            case 7:
                multiply(a, b);
                return;
            case 8:
            case 9:
                rewrite();
                return;
            case 10:
                if (random.nextBoolean()) {
                    cancel(a, b);
                }
                return;
            default: {
                int v = a == 0 ? pick(2) : pick(10);
                Object due = out(a, 2) ? BOUNDS : out(v, a == 0 ? 2 : 10) ? ARGUMENT : (Object) m.settings[a];
                due("set(" + a + "," + v + ")", () -> x.set(a, v), due);
                if (due instanceof Integer) {
                    m.save();
                    m.settings[a] = v;
                }
            }
        }
    }

    private void multiply(int a, int b) {
        if (out(a, 3) || out(b, 3)) {
            due("multiply(" + a + "," + b + ")", () -> x.multiply(a, b), BOUNDS);
            return;
        }
        int[] row = new int[8];
        for (int f = 0; f < 8; f++) {
            row[f] = m.products[a][f] + m.products[b][f];
        }
        put("multiply(" + a + "," + b + ")", () -> x.multiply(a, b), a, row);
    }

    /** Whether the product was put there. */
    private boolean put(String call, Check.Call got, int product, int[] row) {
        if (!m.fits(product, row)) {
            due(call, got, STATE);
            return false;
        }
        m.save();
        m.products[product] = row;
        due(call, got, m.factors(product));
        return true;
    }

    private void rewrite() {
        long all = m.matchers(0, 0);
        int n = random.nextInt(3) > 0 ? random.nextInt(3) : pick((int) Math.min(all + 1, 2000));
        if (n < 0 || n >= all) {
            due("rewrite(" + n + ")", () -> x.rewrite(n), ARGUMENT);
            return;
        }
        if (m.foreign()) {
            due("rewrite(" + n + ")", () -> x.rewrite(n), STATE);
            return;
        }
        List<int[][]> first = m.firstMatchers(n + 1);
        if (first == null) {
            return;
        }
        int[] row = new int[8];
        for (int c = 0; c < 4; c++) {
            row[c] = m.rewritten(first.get(n), c);
        }
        put("rewrite(" + n + ")", () -> x.rewrite(n), 2, row);
    }

    private void cancel(int a, int b) {
        if (out(a, 3) || out(b, 3)) {
            due("cancel(" + a + "," + b + ")", () -> x.cancel(a, b), BOUNDS);
            return;
        }
        m.save();
        int all = 0;
        int[] common = new int[8];
        for (int f = 0; f < 8; f++) {
            common[f] = Math.min(m.products[a][f], m.products[b][f]);
            all += common[f];
        }
        for (int f = 0; f < 8; f++) {
            m.products[a][f] -= common[f];
            if (a != b) {
                m.products[b][f] -= common[f];
            }
        }
        due("cancel(" + a + "," + b + ")", () -> x.cancel(a, b), all);
    }

    private void textOrSnapshot(int kind) {
        int a = pick(2);
        switch (kind) {
            case 12:
                for (int i = 0; i < 1 + random.nextInt(random.nextInt(12) == 0 ? 70 : 7); i++) {
                    append();
                }
                due("firstError()", () -> x.firstError(), m.firstError());
                if (random.nextInt(5) == 0) {
                    due("clearBuffer()", () -> x.clearBuffer(), m.buffer.length());
                    m.buffer = "";
                }
                return;
            case 13: {
                int p = pick(3);
                if (out(p, 3) || !m.isText()) {
                    due("read(" + p + ")", () -> x.read(p), out(p, 3) ? BOUNDS : ARGUMENT);
                    due("clearBuffer()", () -> x.clearBuffer(), m.buffer.length());
                    m.buffer = "";
                } else if (put("read(" + p + ") of " + m.buffer, () -> x.read(p), p, m.told())) {
                    m.buffer = "";
                }
                return;
            }
            case 14:
                due("take(" + a + ")", () -> x.take(a), out(a, 2) ? BOUNDS : (Object) m.all());
                if (!out(a, 2)) {
                    m.snapshots[a] = new int[][] {m.products[0].clone(), m.products[1].clone(), m.products[2].clone()};
                }
                return;
            case 15:
                if (out(a, 2) || m.snapshots[a] == null) {
                    due("restore(" + a + ")", () -> x.restore(a), out(a, 2) ? BOUNDS : STATE);
                } else {
                    m.save();
                    for (int p = 0; p < 3; p++) {
                        m.products[p] = m.snapshots[a][p].clone();
                    }
                    due("restore(" + a + ")", () -> x.restore(a), m.all());
                }
                return;
            default:
                if (m.saved.isEmpty()) {
                    due("undo()", () -> x.undo(), STATE);
                } else {
                    m.undo();
                    due("undo()", () -> x.undo(), m.saved.size());
                }
        }
    }

    private void append() {
        int code = random.nextInt(25) == 0 ? random.nextInt(200) : SIGNS.charAt(random.nextInt(SIGNS.length()));
        Object due = out(code - 33, 94) ? ARGUMENT : m.buffer.length() == 60 ? STATE : (Object) (m.buffer.length() + 1);
        due("append(" + code + ")", () -> x.append(code), due);
        if (due instanceof Integer) {
            m.buffer += (char) code;
        }
    }

    private void look(int kind) {
        int a = pick(4);
        int b = pick(4);
        switch (kind) {
            case 17: {
                int p = pick(3);
                int f = pick(8);
                due("times", () -> x.times(p, f), out(p, 3) || out(f, 8) ? BOUNDS : (Object) m.products[p][f]);
                due("setting", () -> x.setting(a), out(a, 2) ? BOUNDS : (Object) m.settings[a]);
                return;
            }
            case 18:
                due("rest", () -> x.rest(a), out(a, 4) ? BOUNDS : (Object) m.rest(a));
                due("solutions", () -> x.solutions(a), out(a, 4) ? BOUNDS : (Object) m.solutions(m.rest(a)).size());
                return;
            case 19:
                due("matchers", () -> x.matchers(a), out(a, 2) ? ARGUMENT : (Object) m.matchers(0, 0));
                due("openShare", () -> x.openShare(), m.openShare());
                return;
            case 20:
            case 21:
            case 22:
                lookAtMatcher(a, b);
                return;
            case 23:
            case 24:
                lookAtLeasts(a);
                return;
            case 25: {
                int what = pick(11);
                due("count " + what, () -> x.count(what), out(what, 11) ? ARGUMENT : (Object) m.count(what));
                return;
            }
            case 26:
            case 27: {
                int by = pick(19) - 9;
                Object due = out(a, 4) ? BOUNDS : out(by + 9, 19) ? ARGUMENT : (Object) m.matchers(a, by);
                due("ifMore " + a + " " + by, () -> x.ifMore(a, by), due);
                return;
            }
            default: {
                List<int[][]> first = m.firstMatchers(20);
                if (first != null) {
                    due("shortest " + a, () -> x.shortest(a), out(a, 4) ? BOUNDS : (Object) m.shortest(a, first));
                }
            }
        }
    }

    private void lookAtMatcher(int v, int c) {
        long all = m.matchers(0, 0);
        int n = random.nextInt(12) == 0 ? random.nextInt() : pick((int) Math.min(all + 1, 5000));
        boolean none = n < 0 || n >= all;
        List<int[][]> first = none || n > 50000 ? null : m.firstMatchers(n + 1);
        if (out(v, 4) || out(c, 4)) {
            due("value bounds", () -> x.value(n, v, c), BOUNDS);
        } else if (none) {
            due("value none", () -> x.value(n, v, c), ARGUMENT);
        } else if (first != null) {
            int due = m.has(0, v) ? first.get(n)[c][v] : -1;
            due("value(" + n + "," + v + "," + c + ")", () -> x.value(n, v, c), due);
        } else if (m.settings[0] == 1) {
            due("value(" + n + "," + v + "," + c + ")", () -> x.value(n, v, c), m.has(0, v) ? byDigits(n, c, v) : -1);
        }
        if (out(c, 4)) {
            due("ifRewritten bounds", () -> x.ifRewritten(n, c), BOUNDS);
        } else if (none) {
            due("ifRewritten none", () -> x.ifRewritten(n, c), ARGUMENT);
        } else if (first != null) {
            int due = m.foreign() ? -1 : m.rewritten(first.get(n), c);
            due("ifRewritten(" + n + "," + c + ")", () -> x.ifRewritten(n, c), due);
        }
    }

    /** Where values can be empty, a matcher's number has the places of its solutions as digits. */
    private int byDigits(int n, int constant, int variable) {
        long left = n;
        for (int c = 3; c > constant; c--) {
            left /= m.solutions(m.rest(c)).size();
        }
        List<int[]> rows = m.solutions(m.rest(constant));
        return rows.get((int) (left % rows.size()))[variable];
    }

    private void lookAtLeasts(int v) {
        List<int[]> leasts = m.leasts();
        int place = pick(leasts.size() + 2);
        Object due = out(v, 4) ? BOUNDS : place < 0 ? ARGUMENT
                : place >= leasts.size() ? (Object) (-1) : (Object) leasts.get(place)[v];
        due("least(" + place + "," + v + ")", () -> x.least(place, v), due);
        int[] n = {pick(7), pick(7), pick(7), pick(7)};
        if (random.nextBoolean() && leasts.size() > 1) {
            for (int i = 0; i < 4; i++) {
                n[i] = leasts.get(0)[i] + leasts.get(leasts.size() - 1)[i] + leasts.get(leasts.size() / 2)[i];
            }
        }
        boolean wrong = out(n[0], 7) || out(n[1], 7) || out(n[2], 7) || out(n[3], 7);
        due("sums " + n[0] + n[1] + n[2] + n[3], () -> x.sums(n[0], n[1], n[2], n[3]),
                wrong ? ARGUMENT : (Object) m.sums(n));
    }
}
