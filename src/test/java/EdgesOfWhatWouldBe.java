import java.math.BigInteger;
import java.util.ArrayList;
import java.util.List;

/** Promises 24 to 28: for each sentence that names a boundary case a test of its own. */
final class EdgesOfWhatWouldBe {
    private static final String CONSTANTS = "a9b9c9d9";

    public static void main(String[] args) {
        ifMoreByRest();
        ifMoreBelowZero();
        ifMoreAboveNine();
        ifMoreBeside();
        ifMoreAsIfItWere();
        ifRewrittenNumbers();
        ifRewrittenAboveNine();
        ifRewrittenForeign();
        ifRewrittenAsRewrite();
        shortestOfNone();
        shortestOfFew();
        shortestOfTwenty();
        shortestOfSeveral();
        openShareEmpty();
        openShareBelow();
        openShareEnds();
        digestOfNew();
        digestAsListed();
        digestOfFewMatchersAndLeasts();
        digestOfTexts();
        digestOfShares();
        digestWrapsAround();
        Check.end();
    }

    private static FactorMatch of(String pattern, String subject) {
        return Edge.with(pattern, "", subject);
    }

    private static FactorMatch set(FactorMatch x, int empty, int most) {
        x.set(0, empty);
        x.set(1, most);
        return x;
    }

    // ---- 24

    /** By -9 to 9, whether the subject would have it 0 to 9 times does not matter. */
    private static void ifMoreByRest() {
        for (int c = 0; c < 4; c++) {
            String sign = "abcd".substring(c, c + 1);
            for (int had = 0; had <= 9; had += 3) {
                for (int by = -9; by <= 9; by++) {
                    int rest = had + by;
                    int pair = rest < 0 ? 0 : Math.min(9, rest) - Math.max(0, rest - 9) + 1;
                    String what = "24: " + had + " of " + sign + " and " + by + " more";
                    Edge.same(what, of("wx", sign + had).ifMore(c, by), pair);
                    // each of the two has at least one
                    int filled = rest < 2 ? 0 : Math.min(9, rest - 1) - Math.max(1, rest - 9) + 1;
                    Edge.same(what + ", not empty", set(of("wx", sign + had), 0, 9).ifMore(c, by), filled);
                    Edge.same(what + ", one variable", of("z2", sign + had).ifMore(c, by),
                            rest >= 0 && rest % 2 == 0 ? 1 : 0);
                }
            }
        }
        for (int wrong : new int[] {-10, 10, Integer.MIN_VALUE, Integer.MAX_VALUE, 256, 65536, 1 << 30}) {
            Edge.refused("24: by " + wrong, Stock.BUSY, x -> x.ifMore(3, wrong), Edge.ARGUMENT);
            Edge.refused("24: no such constant, by " + wrong, Stock.BUSY, x -> x.ifMore(4, wrong), Edge.BOUNDS);
            Edge.refused("24: no constant -1, by " + wrong, Stock.BUSY, x -> x.ifMore(-1, wrong), Edge.BOUNDS);
        }
    }

    /** Below 0 there is none. */
    private static void ifMoreBelowZero() {
        for (int c = 0; c < 4; c++) {
            String sign = "abcd".substring(c, c + 1);
            Edge.same("24: none of none", new FactorMatch().ifMore(c, -1), 0);
            Edge.same("24: as many as none", new FactorMatch().ifMore(c, 0), 1);
            Edge.same("24: down to 0", of("w", sign + "9").ifMore(c, -9), 1);
            Edge.same("24: down to -1", of("w", sign + "8").ifMore(c, -9), 0);
            Edge.same("24: down to the pattern's", of(sign + "2", sign + "9").ifMore(c, -7), 1);
            Edge.same("24: below the pattern's", of(sign + "2w", sign + "9").ifMore(c, -8), 0);
            Edge.same("24: from below 0 up to 0", of(sign + "9", "").ifMore(c, 9), 1);
            Edge.same("24: from below 0 not up to 0", of(sign + "9", "").ifMore(c, 8), 0);
            Edge.same("24: another rest is below 0", of(sign + "w", "").ifMore((c + 1) % 4, 5), 0);
        }
    }

    private static void ifMoreAboveNine() {
        for (int c = 0; c < 4; c++) {
            String sign = "abcd".substring(c, c + 1);
            Edge.same("24: 18 for two", of("wx", sign + "9").ifMore(c, 9), 1);
            Edge.same("24: 17 for two", of("wx", sign + "9").ifMore(c, 8), 2);
            Edge.same("24: 10 for one", of("w", sign + "9").ifMore(c, 1), 0);
            Edge.same("24: 18 for one twice", of("w2", sign + "9").ifMore(c, 9), 1);
            Edge.same("24: 18 less 9 for one", of(sign + "9w", sign + "9").ifMore(c, 9), 1);
            Edge.same("24: 18 less 8 for one", of(sign + "8w", sign + "9").ifMore(c, 9), 0);
            Edge.same("24: 18 for four", of("wxyz", sign + "9").ifMore(c, 9), 670);
            Edge.same("24: 18 for four, not empty", set(of("wxyz", sign + "9"), 0, 9).ifMore(c, 9),
                    670 - 4 * 55 + 6);
        }
        Edge.same("24: 18 and all others full", of("wxyz", CONSTANTS).ifMore(3, 9), 670L * 220 * 220 * 220);
        Edge.same("24: at most 4, 16 for four", set(of("wxyz", "a9"), 1, 4).ifMore(0, 7), 1);
        Edge.same("24: at most 4, 17 for four", set(of("wxyz", "a9"), 1, 4).ifMore(0, 8), 0);
    }

    /** What would be does not stay: neither here nor in what is asked for next. */
    private static void ifMoreBeside() {
        FactorMatch x = of("wx", "a2b");
        for (int by = -9; by <= 9; by++) {
            x.ifMore(0, by);
            x.ifMore(3, by);
            Edge.same("24: matchers after " + by, x.matchers(0) + x.matchers(1), 12);
            Edge.same("24: solutions after " + by, x.solutions(0) * 10 + x.solutions(3), 31);
            Edge.same("24: a matcher after " + by, Edge.row(x, 5), "2100 0000 ---- ----");
        }
        Edge.same("24: without variables", new FactorMatch().ifMore(0, 1), 0);
    }

    /** As many as if the subject was changed so. */
    private static void ifMoreAsIfItWere() {
        for (Stock stock : Stock.values()) {
            for (int c = 0; c < 4; c++) {
                FactorMatch x = stock.make();
                int had = x.times(2, c);
                for (int n = 0; n <= 9; n++) {
                    FactorMatch then = stock.make();
                    then.constant(2, c, n);
                    Edge.same("24: " + c + " to " + n + " in " + stock, x.ifMore(c, n - had), then.matchers(0));
                }
            }
        }
    }

    // ---- 25

    private static void ifRewrittenNumbers() {
        Edge.Recipe four = () -> Edge.with("wx", "bw2", "a3");
        for (int m = 0; m < 4; m++) {
            int matcher = m;
            Edge.answers("25: matcher " + m, four, x -> x.ifRewritten(matcher, 0), 2 * m);
            Edge.answers("25: matcher " + m + ", its own", four, x -> x.ifRewritten(matcher, 1), 1);
            Edge.answers("25: matcher " + m + ", none", four, x -> x.ifRewritten(matcher, 3), 0);
        }
        for (int wrong : new int[] {-1, 4, Integer.MIN_VALUE, Integer.MAX_VALUE}) {
            Edge.refused("25: matcher " + wrong, four, x -> x.ifRewritten(wrong, 0), Edge.ARGUMENT);
            Edge.refused("25: matcher " + wrong + ", no such constant", four, x -> x.ifRewritten(wrong, 4),
                    Edge.BOUNDS);
        }
        Edge.refused("25: no matcher at all", () -> of("a", ""), x -> x.ifRewritten(0, 0), Edge.ARGUMENT);
        Edge.answers("25: all empty", FactorMatch::new, x -> x.ifRewritten(0, 0), 0);
    }

    /** Also above 9. */
    private static void ifRewrittenAboveNine() {
        for (int c = 0; c < 4; c++) {
            int constant = c;
            String sign = "abcd".substring(c, c + 1);
            Edge.answers("25: 9 of " + sign, () -> Edge.with("w", sign + "w2", sign + "4"),
                    x -> x.ifRewritten(0, constant), 9);
            Edge.answers("25: 10 of " + sign, () -> Edge.with("w", sign + "2w2", sign + "4"),
                    x -> x.ifRewritten(0, constant), 10);
            Edge.answers("25: as many as can be of " + sign, () -> Edge.with("wxyz", sign + "9w5x5y5z5", sign + "9"),
                    x -> x.ifRewritten(0, constant), 54);
        }
    }

    /** NONE if the other pattern has a variable that the pattern does not have. */
    private static void ifRewrittenForeign() {
        for (int v = 0; v < 4; v++) {
            String sign = "wxyz".substring(v, v + 1);
            String others = "wxyz".replace(sign, "");
            Edge.Recipe foreign = () -> Edge.with(others, "a" + sign, "");
            Edge.answers("25: without " + sign, foreign, x -> x.ifRewritten(0, 0), -1);
            Edge.answers("25: without " + sign + ", another constant", foreign, x -> x.ifRewritten(0, 3), -1);
            Edge.refused("25: no such matcher, without " + sign, foreign, x -> x.ifRewritten(1, 0), Edge.ARGUMENT);
            Edge.refused("25: no such constant, without " + sign, foreign, x -> x.ifRewritten(0, 4), Edge.BOUNDS);
            Edge.answers("25: " + sign + " may be missing", () -> Edge.with("wxyz", "a" + others, ""),
                    x -> x.ifRewritten(0, 0), 1);
        }
    }

    /** What rewrite() would make the subject, where it does not refuse. */
    private static void ifRewrittenAsRewrite() {
        for (int m = 0; m < 18; m++) {
            int matcher = m;
            Edge.Recipe some = () -> Edge.with("wxy2", "cw2y3", "a2b3d2");
            FactorMatch x = some.make();
            Object answer = Check.answer(() -> x.ifRewritten(matcher, 0));
            if (!(answer instanceof Integer)) {
                Edge.refused("25: rewrite refuses it too", some, y -> y.rewrite(matcher), Edge.ARGUMENT);
                continue;
            }
            int[] due = {x.ifRewritten(m, 0), x.ifRewritten(m, 1), x.ifRewritten(m, 2), x.ifRewritten(m, 3)};
            Edge.same("25: all of matcher " + m, x.rewrite(m), due[0] + due[1] + due[2] + due[3]);
            for (int c = 0; c < 4; c++) {
                Edge.same("25: matcher " + m + ", constant " + c, x.times(2, c), due[c]);
            }
        }
    }

    // ---- 26

    private static void shortestOfNone() {
        for (int v = 0; v < 4; v++) {
            int variable = v;
            String sign = "wxyz".substring(v, v + 1);
            Edge.answers("26: no matcher for " + sign, () -> of("a" + sign, ""), x -> x.shortest(variable), -1);
            Edge.answers("26: none that is not empty", () -> set(of(sign, ""), 0, 9), x -> x.shortest(variable), -1);
            Edge.answers("26: the pattern has no " + sign, () -> of("wxyz".replace(sign, ""), "a"),
                    x -> x.shortest(variable), -1);
            Edge.answers("26: only the other pattern has " + sign, () -> Edge.with("", sign, ""),
                    x -> x.shortest(variable), -1);
            Edge.answers("26: one matcher for " + sign, () -> of(sign, CONSTANTS), x -> x.shortest(variable), 0);
            Edge.answers("26: one that is empty for " + sign, () -> of(sign, ""), x -> x.shortest(variable), 0);
            Edge.answers("26: no variables", FactorMatch::new, x -> x.shortest(variable), -1);
        }
    }

    private static void shortestOfFew() {
        for (int n = 0; n <= 9; n++) {
            String subject = "c" + n;
            Edge.same("26: w of " + (n + 1), of("wx", subject).shortest(0), 0);
            Edge.same("26: x of " + (n + 1), of("wx", subject).shortest(1), n);
            Edge.same("26: x of " + (n + 1) + ", not empty", set(of("wx", subject), 0, 9).shortest(1), n < 2 ? -1 : n - 2);
            Edge.same("26: x of some, at most 5", set(of("wx", subject), 1, 5).shortest(1), Math.min(n, 10 - n));
        }
    }

    /** Of the matchers 0 to 19: the last of 20 counts, the 21st does not. */
    private static void shortestOfTwenty() {
        // b stands 0 to n times in w for each a: of 2 * (n + 1) matchers the last one leaves x empty
        Edge.same("26: the last of 16", of("wx", "ab7").shortest(1), 15);
        Edge.same("26: the last of 18", of("wx", "ab8").shortest(1), 17);
        Edge.same("26: the last of 20", of("wx", "ab9").shortest(1), 19);
        // 3 * 7 matchers: at 20 x is empty; at 13 and 19 it has one factor
        Edge.same("26: not the last of 21", of("wx", "a2b6").shortest(1), 13);
        Edge.same("26: not the last of 21, by other constants", of("wx", "c2d6").shortest(1), 13);
        Edge.same("26: not the last of 24", of("wx", "a3b5").shortest(1), 17);
        Edge.same("26: of very many", of("wxyz", CONSTANTS).shortest(0), 0);
        // z has all of a, b and c, and of d 9 to 0 while y has the others, then 8 to 0 while x has one and y the others
        Edge.same("26: of very many, the last variable", of("wxyz", CONSTANTS).shortest(3), 9);
    }

    /** Of several the lowest number; all constants count. */
    private static void shortestOfSeveral() {
        Edge.same("26: all are empty there", of("wxy", "a").shortest(0), 0);
        Edge.same("26: y is empty from the second on", of("wxy", "a").shortest(2), 1);
        Edge.same("26: x is empty at the first and at the last", of("wxy", "a").shortest(1), 0);
        for (int c = 0; c < 4; c++) {
            for (int d = c + 1; d < 4; d++) {
                String subject = "abcd".substring(c, c + 1) + "abcd".substring(d, d + 1);
                Edge.same("26: x of " + subject, of("wx", subject).shortest(1), 3);
                Edge.same("26: x of " + subject + ", not empty", set(of("wx", subject), 0, 9).shortest(1), 0);
            }
        }
    }

    // ---- 27

    private static void openShareEmpty() {
        Edge.same("27: empty", new FactorMatch().openShare(), 0.0);
        Edge.same("27: an empty subject with variables", of("wxyz", "").openShare(), 0.0);
        Edge.same("27: an empty subject, a rest below 0", of("a", "").openShare(), 0.0);
    }

    /** 0.0 if a rest is below 0. */
    private static void openShareBelow() {
        for (int c = 0; c < 4; c++) {
            String sign = "abcd".substring(c, c + 1);
            String others = CONSTANTS.replace(sign + "9", "");
            Edge.same("27: one below 0, " + sign, of(sign + "w", others).openShare(), 0.0);
            Edge.same("27: one at 0, " + sign, of(sign + "w", others + sign).openShare(), 27.0 / 28.0);
            Edge.same("27: one above 0, " + sign, of(sign, sign + "2").openShare(), 0.5);
        }
    }

    private static void openShareEnds() {
        Edge.same("27: all of a full subject", of("w", CONSTANTS).openShare(), 1.0);
        Edge.same("27: none of a full subject", of(CONSTANTS, CONSTANTS).openShare(), 0.0);
        Edge.same("27: the same as no minus", 1.0 / of(CONSTANTS, CONSTANTS).openShare() > 0.0, true);
        Edge.same("27: one of 36", of("a8b9c9d9", CONSTANTS).openShare(), 1.0 / 36.0);
        Edge.same("27: 35 of 36", of("d", CONSTANTS).openShare(), 35.0 / 36.0);
        Edge.same("27: all of one", of("", "d").openShare(), 1.0);
        Edge.same("27: none of one", of("d", "d").openShare(), 0.0);
    }

    // ---- 28

    private static void digestOfNew() {
        List<Long> due = new ArrayList<>();
        add(due, 0, 0, 0, 0, 4, 1, 0, 1, 0, 0, 0);
        add(due, 1, 9);
        add(due, new int[24]);
        // each rest is 0 and has one solution, one more has none
        add(due, 0, 1, 0, 0, 1, 0, 0, 1, 0, 0, 1, 0);
        add(due, 1, 1);
        // the one matcher has no values, and rewrites to nothing
        add(due, -1, -1, -1, -1, -1, -1, -1, -1, -1, -1, -1, -1, -1, -1, -1, -1);
        add(due, 0, 0, 0, 0);
        add(due, 0, 0, 0, 1, 0, 0, 1, 0, 0, 1, 0, 0, 1, 0, 0, 0);
        add(due, 1);
        add(due, -1, -1, -1, -1);
        add(due, 0);
        add(due, 0);
        Edge.same("28: of a new object", new FactorMatch().digest(), hash(due));
    }

    private static void add(List<Long> all, int... values) {
        for (int v : values) {
            all.add((long) v);
        }
    }

    private static long hash(List<Long> values) {
        long hash = 2593;
        for (long v : values) {
            hash = 31 * hash + v;
        }
        return hash;
    }

    /** The list, by what the other calls answer. */
    private static List<Long> listed(FactorMatch x, String buffer) {
        List<Long> all = new ArrayList<>();
        for (int what = 0; what <= 10; what++) {
            add(all, x.count(what));
        }
        add(all, x.setting(0), x.setting(1));
        for (int i = 0; i < 24; i++) {
            add(all, x.times(i / 8, i % 8));
        }
        for (int c = 0; c < 4; c++) {
            add(all, x.rest(c), x.solutions(c));
            all.add(x.ifMore(c, 1));
        }
        all.add(x.matchers(0));
        all.add(x.matchers(1));
        for (int m = 0; m < 3 && m < x.matchers(0); m++) {
            for (int i = 0; i < 16; i++) {
                add(all, x.value(m, i / 4, i % 4));
            }
            for (int c = 0; c < 4; c++) {
                add(all, x.ifRewritten(m, c));
            }
        }
        for (int i = 0; i < 16; i++) {
            add(all, x.least(i / 4, i % 4));
        }
        add(all, x.sums(2, 2, 2, 2));
        for (int v = 0; v < 4; v++) {
            add(all, x.shortest(v));
        }
        all.add(Double.doubleToLongBits(x.openShare()));
        add(all, buffer.length());
        for (char c : buffer.toCharArray()) {
            add(all, c);
        }
        return all;
    }

    private static void listedSame(String what, FactorMatch x, String buffer) {
        long before = x.digest();
        Edge.same(what, before, hash(listed(x, buffer)));
        Edge.same(what + ", again", x.digest(), before);
    }

    private static void digestAsListed() {
        String[] buffers = {"", "aw2", "a2".repeat(30), "", "1a!", "1"};
        for (Stock stock : Stock.values()) {
            listedSame("28: of " + stock, stock.make(), buffers[stock.ordinal()]);
        }
    }

    /** The first three matchers, those of them that there are; the places 0 to 3, also NONE. */
    private static void digestOfFewMatchersAndLeasts() {
        String[] subjects = {"", "a", "a2", "a3", "a4"};
        for (int i = 0; i < 5; i++) {
            FactorMatch x = Edge.with("wx", "x2y", subjects[i]);
            Edge.same("28: matchers", x.matchers(0), i + 1);
            listedSame("28: of " + (i + 1) + " matchers, a variable without a value", x, "");
            listedSame("28: of " + (i + 1) + " matchers", Edge.with("wx", "bx2", subjects[i]), "");
            FactorMatch filled = set(Edge.with("wx", "bx2", subjects[i]), 0, 9);
            Edge.same("28: matchers, not empty", filled.matchers(0), Math.max(0, i - 1));
            listedSame("28: of " + (i - 1) + " matchers, not empty", filled, "");
        }
        String[] patterns = {"wxyz", "wxy", "wx", "w", "", "w2x|y3"};
        int[] leasts = {0, 1, 2, 3, 4, 4};
        for (int i = 0; i < 6; i++) {
            String[] two = (patterns[i] + "| ").split("\\|");
            FactorMatch x = Edge.with(two[0], two[1], "ab");
            Edge.same("28: least ones", x.count(4), leasts[i]);
            listedSame("28: of " + leasts[i] + " least ones", x, "");
        }
        listedSame("28: of 30 least ones", Edge.with("w5x5", "y4z4", ""), "");
        FactorMatch cross = Edge.with("wx", "yz", "");
        Edge.same("28: sums", cross.sums(2, 2, 2, 2), 3);
        listedSame("28: of sums in three ways", cross, "");
        listedSame("28: a rest below 0", Edge.with("aw", "w", "b"), "");
    }

    private static void digestOfTexts() {
        FactorMatch x = new FactorMatch();
        StringBuilder text = new StringBuilder();
        for (int i = 0; i < 60; i++) {
            char sign = (char) (33 + i * 37 % 94);
            text.append(sign);
            x.append(sign);
            listedSame("28: a text of " + (i + 1), x, text.toString());
        }
        x.clearBuffer();
        listedSame("28: a cleared text", x, "");
        listedSame("28: the lowest and the highest code", Edge.typed("!~"), "!~");
        // the same characters in another order
        listedSame("28: in another order", Edge.typed("~!"), "~!");
    }

    /** The bits of each share that there can be. */
    private static void digestOfShares() {
        for (int all = 1; all <= 36; all++) {
            for (int open = 0; open <= all; open++) {
                FactorMatch x = new FactorMatch();
                fill(x, 2, all);
                fill(x, 0, all - open);
                Edge.same("27: " + open + " of " + all, x.openShare(), (double) open / all);
                listedSame("28: a share of " + open + " of " + all, x, "");
            }
        }
    }

    private static void fill(FactorMatch x, int product, int factors) {
        int left = factors;
        for (int c = 0; c < 4; c++) {
            x.constant(product, c, Math.min(9, left));
            left -= Math.min(9, left);
        }
    }

    /** In long arithmetic with overflow. */
    private static void digestWrapsAround() {
        for (Stock stock : new Stock[] {Stock.FRESH, Stock.LOW}) {
            FactorMatch x = stock.make();
            BigInteger hash = BigInteger.valueOf(2593);
            for (long v : listed(x, "")) {
                hash = hash.multiply(BigInteger.valueOf(31)).add(BigInteger.valueOf(v));
            }
            Edge.same("28: it is far above a long", hash.bitLength() > 64, true);
            Edge.same("28: its lowest 64 bits", x.digest(), hash.longValue());
        }
    }
}
