import java.util.ArrayList;
import java.util.List;

/** Promises 15 to 23: for each sentence that names a boundary case a test of its own. */
final class EdgesOfLooks {
    private static final String ALL = "a9b9c9d9w5x5y5z5";
    private static final String CONSTANTS = "a9b9c9d9";

    public static void main(String[] args) {
        timesEmptyAndFull();
        restEnds();
        solutionsByRest();
        solutionsBySetting();
        solutionsWithoutVariables();
        solutionsAsManyAsCanBe();
        matchersOfRests();
        matchersWithoutEmptyValues();
        matchersBySettings();
        matchersAgree();
        matchersAfterChanges();
        valueOrder();
        valueNumbers();
        valueNone();
        leastEnds();
        leastOfDifferences();
        leastAsGreatAsCanBe();
        leastOfAllDifferences();
        sumsEnds();
        sumsOfLeastOnes();
        countFactors();
        countLeasts();
        countRests();
        countSame();
        countCommon();
        countKept();
        settingEnds();
        Check.end();
    }

    private static FactorMatch set(FactorMatch x, int empty, int most) {
        x.set(0, empty);
        x.set(1, most);
        return x;
    }

    private static FactorMatch of(String pattern, String subject) {
        return Edge.with(pattern, "", subject);
    }

    // ---- 15, 16

    private static void timesEmptyAndFull() {
        FactorMatch full = Edge.with(ALL, ALL, CONSTANTS);
        for (int p = 0; p < 3; p++) {
            for (int f = 0; f < 8; f++) {
                Edge.same("15: empty", new FactorMatch().times(p, f), 0);
                // 0 for the variables of the subject
                Edge.same("15: full", full.times(p, f), f < 4 ? 9 : p < 2 ? 5 : 0);
            }
        }
        for (int f : new int[] {-1, 8, Integer.MIN_VALUE, Integer.MAX_VALUE}) {
            Edge.refused("15: factor " + f, Stock.FULL, x -> x.times(2, f), Edge.BOUNDS);
            Edge.refused("15: factor " + f + " of the last product", Stock.FULL, x -> x.times(0, f), Edge.BOUNDS);
        }
    }

    /** It can be below 0. */
    private static void restEnds() {
        for (int c = 0; c < 4; c++) {
            String sign = "abcd".substring(c, c + 1);
            for (int had = 0; had <= 9; had += 3) {
                for (int needed = 0; needed <= 9; needed += 3) {
                    FactorMatch x = of(sign + needed + "w5", sign + had);
                    for (int other = 0; other < 4; other++) {
                        Edge.same("16: rest " + other, x.rest(other), other == c ? had - needed : 0);
                    }
                }
            }
        }
        Edge.same("16: the other pattern does not count", Edge.with("", CONSTANTS, "a").rest(0), 1);
    }

    // ---- 17

    /** 0 if its rest is below 0. */
    private static void solutionsByRest() {
        for (int c = 0; c < 4; c++) {
            String sign = "abcd".substring(c, c + 1);
            Edge.same("17: a rest of 0", of(sign + "wx", sign).solutions(c), 1);
            Edge.same("17: a rest of 1", of("wx", sign).solutions(c), 2);
            Edge.same("17: a rest of 9", of("wx", sign + "9").solutions(c), 10);
            Edge.same("17: a rest of -1", of(sign + "wx", "").solutions(c), 0);
            Edge.same("17: a rest of -9", of(sign + "9wx", "").solutions(c), 0);
            Edge.same("17: the other constants", of(sign + "9wx", "").solutions((c + 1) % 4), 1);
        }
    }

    /** Numbers of at most setting 1; whether values can be empty or not does not matter. */
    private static void solutionsBySetting() {
        for (int empty = 0; empty <= 1; empty++) {
            for (int most = 0; most <= 9; most++) {
                for (int rest = 0; rest <= 9; rest++) {
                    String subject = "b" + rest;
                    FactorMatch one = set(of("y", subject), empty, most);
                    Edge.same("17: once, " + rest + " at most " + most, one.solutions(1), rest <= most ? 1 : 0);
                    FactorMatch two = set(of("y2", subject), empty, most);
                    boolean even = rest % 2 == 0 && rest / 2 <= most;
                    Edge.same("17: twice, " + rest + " at most " + most, two.solutions(1), even ? 1 : 0);
                    FactorMatch pair = set(of("wz", subject), empty, most);
                    int due = Math.max(0, Math.min(most, rest) - Math.max(0, rest - most) + 1);
                    Edge.same("17: two, " + rest + " at most " + most, pair.solutions(1), due);
                }
            }
        }
    }

    private static void solutionsWithoutVariables() {
        for (int c = 0; c < 4; c++) {
            String sign = "abcd".substring(c, c + 1);
            Edge.same("17: no variables, a rest of 0", new FactorMatch().solutions(c), 1);
            Edge.same("17: no variables, no more than the pattern", of(sign + "9", sign + "9").solutions(c), 1);
            Edge.same("17: no variables, a rest of 1", of(sign + "8", sign + "9").solutions(c), 0);
            Edge.same("17: no variables, a rest of -1", of(sign + "9", sign + "8").solutions(c), 0);
            Edge.same("17: no variables, at most 0", set(new FactorMatch(), 1, 0).solutions(c), 1);
            Edge.same("17: the other pattern's do not count", Edge.with("", "wxyz", sign).solutions(c), 0);
        }
    }

    private static void solutionsAsManyAsCanBe() {
        for (int rest = 0; rest <= 9; rest++) {
            // numbers of w to z that make up the rest
            int due = (rest + 1) * (rest + 2) * (rest + 3) / 6;
            Edge.same("17: four variables, a rest of " + rest, of("wxyz", "d" + rest).solutions(3), due);
        }
        Edge.same("17: four variables, 9 at most 8", set(of("wxyz", "a9"), 1, 8).solutions(0), 216);
        Edge.same("17: four variables, 9 at most 3", set(of("wxyz", "a9"), 1, 3).solutions(0), 20);
        Edge.same("17: four variables, 9 at most 2", set(of("wxyz", "a9"), 1, 2).solutions(0), 0);
        Edge.same("17: four variables, 8 at most 2", set(of("wxyz", "a8"), 1, 2).solutions(0), 1);
        Edge.same("17: all five times, 9", of("w5x5y5z5", "a9").solutions(0), 0);
        Edge.same("17: all five times, 5", of("w5x5y5z5", "a5").solutions(0), 4);
        Edge.same("17: all five times, 4", of("w5x5y5z5", "a4").solutions(0), 0);
    }

    // ---- 18

    private static void counts(String what, FactorMatch x, long due) {
        Edge.same(what + ", by sets", x.matchers(0), due);
        Edge.same(what + ", by constants", x.matchers(1), due);
        boolean isLast = due > 0 && due <= Integer.MAX_VALUE;
        if (isLast) {
            Object last = Check.answer(() -> x.value((int) due - 1, 0, 0));
            Edge.same(what + ", the last one is there", last instanceof Integer, true);
        }
        if (due <= Integer.MAX_VALUE) {
            Edge.same(what + ", the next one is not", Check.answer(() -> x.value((int) due, 0, 0)), Edge.ARGUMENT);
        }
    }

    /** If a rest is below 0 there is no matcher. */
    private static void matchersOfRests() {
        counts("18: all empty", new FactorMatch(), 1);
        counts("18: a rest without variables", of("", "a"), 0);
        for (String sign : new String[] {"a", "b", "c", "d"}) {
            counts("18: a rest of 0 of " + sign, of(sign + "w", sign), 1);
            counts("18: a rest of -1 of " + sign, of(sign + "w", ""), 0);
            counts("18: a rest of -1 of " + sign + " among many", of(sign + "9wx", "a8b8c8d8"), 0);
            counts("18: a rest of 0 of " + sign + " among many", of(sign + "8wx", "a8b8c8d8"), 9 * 9 * 9);
        }
        counts("18: as many as can be", of("wxyz", CONSTANTS), 220L * 220 * 220 * 220);
        counts("18: one less than that", set(of("wxyz", CONSTANTS), 1, 8), 216L * 216 * 216 * 216);
    }

    /** Each value has at least one factor. */
    private static void matchersWithoutEmptyValues() {
        counts("18: no variables", set(new FactorMatch(), 0, 9), 1);
        counts("18: no variables, a rest", set(of("", "a"), 0, 9), 0);
        String[] patterns = {"w", "wx", "wxy", "wxyz"};
        int[] ofFour = {1, 14, 36, 24};
        int[] ofNine = {1, 8, 28, 56};
        for (int i = 0; i < 4; i++) {
            String p = patterns[i];
            counts("18: nothing for " + p, set(of(p, ""), 0, 9), 0);
            // each of four unlike constants goes to one variable, and no variable goes without
            counts("18: four for " + p, set(of(p, "abcd"), 0, 9), ofFour[i]);
            counts("18: nine alike for " + p, set(of(p, "a9"), 0, 9), ofNine[i]);
            counts("18: just enough for " + p, set(of(p, "c" + (i + 1)), 0, 9), 1);
            counts("18: one too few for " + p, set(of(p, "c" + i), 0, 9), 0);
            counts("18: a rest below 0 for " + p, set(of(p + "b", "a9"), 0, 9), 0);
        }
        for (int v = 0; v < 4; v++) {
            String sign = "wxyz".substring(v, v + 1);
            counts("18: nothing for " + sign + " alone", set(of(sign, ""), 0, 9), 0);
            counts("18: something for " + sign + " alone", set(of(sign, "d"), 0, 9), 1);
            counts("18: twice " + sign + ", one", set(of(sign + "2", "d"), 0, 9), 0);
        }
        // with all 220 solutions for each constant less those that leave a variable empty
        long due = power(220) - 4 * power(55) + 6 * power(10) - 4 + 0;
        counts("18: as many as can be, not empty", set(of("wxyz", CONSTANTS), 0, 9), due);
    }

    private static long power(long n) {
        return n * n * n * n;
    }

    /** Setting 1 is the most that a value can have of each constant, not of all together. */
    private static void matchersBySettings() {
        for (int empty = 0; empty <= 1; empty++) {
            counts("18: at most 1, one of each", set(of("w", "abcd"), empty, 1), 1);
            counts("18: at most 1, two of one", set(of("w", "abcd2"), empty, 1), 0);
            counts("18: at most 9, nine of each", set(of("w", CONSTANTS), empty, 9), 1);
            counts("18: at most 8, nine of each", set(of("w", CONSTANTS), empty, 8), 0);
            counts("18: at most 0, one", set(of("wx", "a"), empty, 0), 0);
            counts("18: at most 0, none", set(of("wx", ""), empty, 0), empty);
            counts("18: at most 0, no variables", set(of("a", "a"), empty, 0), 1);
        }
    }

    /** Both ways agree, and with the list of all; by all settings, numbers go from 0 on without a gap. */
    private static void matchersAgree() {
        String[] patterns = {"", "w", "z2", "wx", "x2y3", "wyz2", "wxyz", "w5x4y3z2", "wx2y3z4", "wx5", "aw", "a2bxy"};
        String[] subjects = {"", "a", "a2b", "ab2cd", "a5b4", "a3b3c3"};
        for (String p : patterns) {
            for (String s : subjects) {
                for (int empty = 0; empty <= 1; empty++) {
                    for (int most : new int[] {0, 1, 2, 9}) {
                        listed("18: " + p + " for " + s + " by " + empty + most, set(of(p, s), empty, most));
                    }
                }
            }
        }
    }

    /** What the pattern had before does not count: no value is asked for of a variable that it no more has. */
    private static void matchersAfterChanges() {
        for (int v = 0; v < 4; v++) {
            FactorMatch x = set(of("wxyz", "abcd"), 0, 9);
            counts("18: with all variables", x, 24);
            x.variable(0, v, 0);
            counts("18: without the variable " + v, x, 36);
            x.variable(0, v, 5);
            counts("18: with the variable " + v + " five times", x, 0);
            x.undo();
            counts("18: undone", x, 36);
        }
        FactorMatch y = of("wx", "ab");
        counts("18: may be empty", y, 4);
        y.set(0, 0);
        counts("18: may not be empty", y, 2);
        y.set(1, 0);
        counts("18: may have nothing", y, 0);
        y.set(0, 1);
        y.cancel(2, 2);
        counts("18: must have nothing", y, 1);
        y.multiply(0, 0);
        y.constant(2, 0, 4);
        y.set(1, 9);
        counts("18: each twice", y, 3);
    }

    private static void listed(String what, FactorMatch x) {
        FactorMatchModel m = new FactorMatchModel();
        for (int i = 0; i < 24; i++) {
            m.products[i / 8][i % 8] = x.times(i / 8, i % 8);
        }
        m.settings = new int[] {x.setting(0), x.setting(1)};
        List<int[][]> all = m.firstMatchers(40000);
        counts(what, x, all.size());
        if (x.setting(0) == 1) {
            long product = (long) x.solutions(0) * x.solutions(1) * x.solutions(2) * x.solutions(3);
            Edge.same(what + ", the product of the solutions", x.matchers(0), product);
        }
        int step = Math.max(1, all.size() / 50);
        for (int i = 0; i < all.size(); i += step) {
            for (int k = 0; k < 16; k++) {
                int due = m.has(0, k / 4) ? all.get(i)[k % 4][k / 4] : -1;
                Edge.same("19: " + what + ", matcher " + i, x.value(i, k / 4, k % 4), due);
            }
        }
    }

    // ---- 19

    /** Ordered by the solutions of the constant 0, then by those of 1, and so on; these by the variable 0, then 1. */
    private static void valueOrder() {
        String[] due = {"0000 1100 ---- ----", "0100 1000 ---- ----", "1000 0100 ---- ----", "1100 0000 ---- ----"};
        for (int i = 0; i < 4; i++) {
            Edge.same("19: matcher " + i, Edge.row(of("wx", "ab"), i), due[i]);
        }
        // their numbers are their places among those that are matchers by both settings
        Edge.same("19: not empty, matcher 0", Edge.row(set(of("wx", "ab"), 0, 9), 0), due[1]);
        Edge.same("19: not empty, matcher 1", Edge.row(set(of("wx", "ab"), 0, 9), 1), due[2]);
        for (int c = 0; c < 4; c++) {
            String sign = "abcd".substring(c, c + 1);
            String zeros = "0000".substring(c + 1);
            String one = "0000".substring(0, c) + "1" + zeros;
            String[] four = {"0000 0000 0000 " + one, "0000 0000 " + one + " 0000", "0000 " + one + " 0000 0000",
                one + " 0000 0000 0000"};
            for (int i = 0; i < 4; i++) {
                Edge.same("19: one " + sign + " for four, " + i, Edge.row(of("wxyz", sign), i), four[i]);
            }
        }
        Edge.same("19: all empty", Edge.row(of("wxyz", ""), 0), "0000 0000 0000 0000");
        Edge.same("19: no variables", Edge.row(of("a", "a"), 0), "---- ---- ---- ----");
        Edge.same("19: full", Edge.row(of("x", CONSTANTS), 0), "---- 9999 ---- ----");
    }

    private static void valueNumbers() {
        Edge.Recipe ten = () -> of("wx", "a9");
        Edge.answers("19: the first of ten", ten, x -> x.value(0, 0, 0), 0);
        Edge.answers("19: the last of ten", ten, x -> x.value(9, 0, 0), 9);
        for (int wrong : new int[] {-1, 10, Integer.MIN_VALUE, Integer.MAX_VALUE, 256, 65536, 1 << 30}) {
            Edge.refused("19: matcher " + wrong + " of ten", ten, x -> x.value(wrong, 0, 0), Edge.ARGUMENT);
            Edge.refused("25: matcher " + wrong + " of ten", ten, x -> x.ifRewritten(wrong, 0), Edge.ARGUMENT);
        }
        Edge.Recipe all = () -> of("wxyz", "a9");
        Edge.answers("19: the first of 220", all, x -> Edge.row(x, 0), "0000 0000 0000 9000");
        Edge.answers("19: the last but one of 220", all, x -> Edge.row(x, 218), "8000 1000 0000 0000");
        Edge.answers("19: the last of 220", all, x -> Edge.row(x, 219), "9000 0000 0000 0000");
        Edge.refused("19: one more than 220", all, x -> x.value(220, 0, 0), Edge.ARGUMENT);
        Edge.Recipe eight = () -> set(ten.make(), 0, 9);
        Edge.answers("19: not empty, the first of eight", eight, x -> x.value(0, 0, 0), 1);
        Edge.answers("19: not empty, the last of eight", eight, x -> x.value(7, 0, 0), 8);
        Edge.refused("19: not empty, one more", eight, x -> x.value(8, 0, 0), Edge.ARGUMENT);
        Edge.Recipe one = () -> of("aw", "a");
        Edge.answers("19: the only one", one, x -> x.value(0, 0, 0), 0);
        Edge.refused("19: one beside the only one", one, x -> x.value(1, 0, 0), Edge.ARGUMENT);
        Edge.Recipe none = () -> of("aw", "");
        Edge.refused("19: of none", none, x -> x.value(0, 0, 0), Edge.ARGUMENT);
        Edge.answers("19: more than an int can tell, the greatest", Stock.MANY, x -> Edge.row(x, Integer.MAX_VALUE),
                "6321 0211 1013 2454");
    }

    /** NONE if the pattern does not have the variable; that there is no such matcher is thrown before. */
    private static void valueNone() {
        for (int v = 0; v < 4; v++) {
            int variable = v;
            String sign = "wxyz".substring(v, v + 1);
            Edge.Recipe without = () -> Edge.with("wxyz".replace(sign, ""), sign, "");
            for (int c = 0; c < 4; c++) {
                int constant = c;
                Edge.answers("19: without " + sign, without, x -> x.value(0, variable, constant), -1);
                Edge.answers("19: with " + sign, () -> of(sign, CONSTANTS), x -> x.value(0, variable, constant), 9);
                Edge.refused("19: without " + sign + ", matcher 1", without, x -> x.value(1, variable, constant),
                        Edge.ARGUMENT);
            }
        }
        Edge.refused("19: no such constant, of a variable that is not there", () -> of("w", ""),
                x -> x.value(0, 3, 4), Edge.BOUNDS);
        Edge.refused("19: no such variable and no such matcher", () -> of("w", ""), x -> x.value(1, 4, 0),
                Edge.BOUNDS);
    }

    // ---- 20

    private static void leastEnds() {
        Edge.Recipe none = () -> Edge.with("wxyz", "", "");
        Edge.Recipe most = () -> Edge.with("w5x5", "y4z4", "");
        for (int v = 0; v < 4; v++) {
            int variable = v;
            for (int place : new int[] {0, 1, 29, 30, 1 << 29, 1 << 30, (1 << 30) + 1, Integer.MAX_VALUE}) {
                Edge.answers("20: of none, place " + place, none, x -> x.least(place, variable), -1);
                if (place >= 30) {
                    Edge.answers("20: of 30, place " + place, most, x -> x.least(place, variable), -1);
                }
            }
            for (int place : new int[] {-1, -2, -(1 << 30), Integer.MIN_VALUE}) {
                Edge.refused("20: place " + place, most, x -> x.least(place, variable), Edge.ARGUMENT);
                Edge.refused("20: of none, place " + place, none, x -> x.least(place, variable), Edge.ARGUMENT);
            }
        }
        int[] last = {4, 0, 5, 0};
        for (int v = 0; v < 4; v++) {
            int variable = v;
            Edge.answers("20: the last of 30, " + v, most, x -> x.least(29, variable), last[v]);
        }
        Edge.refused("20: no such variable, place -1", most, x -> x.least(-1, 4), Edge.BOUNDS);
        Edge.refused("20: no such variable, place 30", most, x -> x.least(30, -1), Edge.BOUNDS);
    }

    /** Two variables of any differences; the two others, of no difference, are least ones alone. */
    private static void leastOfDifferences() {
        for (int i = 0; i < 4; i++) {
            for (int j = i + 1; j < 4; j++) {
                for (int d = -5; d <= 5; d++) {
                    for (int e = -5; e <= 5; e++) {
                        FactorMatch x = new FactorMatch();
                        put(x, i, d);
                        put(x, j, e);
                        String what = "20: " + d + " for " + i + " and " + e + " for " + j;
                        Edge.same(what, Edge.leasts(x), String.join(" ", due(i, j, d, e)));
                        Edge.same(what + ", count", x.count(4), due(i, j, d, e).size());
                    }
                }
            }
        }
    }

    private static void put(FactorMatch x, int variable, int difference) {
        // also where both patterns have it, only the difference counts
        int both = 5 - Math.abs(difference);
        x.variable(0, variable, Math.max(difference, 0) + both);
        x.variable(1, variable, Math.max(-difference, 0) + both);
        x.constant(0, variable, 9);
    }

    private static List<String> due(int i, int j, int d, int e) {
        List<String> all = new ArrayList<>();
        for (int v = 0; v < 4; v++) {
            if (v != i && v != j || v == i && d == 0 || v == j && e == 0) {
                all.add(solution(v, 1, v, 1));
            }
        }
        if (d * e < 0) {
            int common = java.math.BigInteger.valueOf(d).gcd(java.math.BigInteger.valueOf(e)).intValue();
            all.add(solution(i, Math.abs(e) / common, j, Math.abs(d) / common));
        }
        java.util.Collections.sort(all);
        return all;
    }

    private static String solution(int i, int n, int j, int m) {
        StringBuilder all = new StringBuilder("0000");
        all.setCharAt(i, (char) ('0' + n));
        all.setCharAt(j, (char) ('0' + m));
        return all.toString();
    }

    /** No number of a least one is above 5; there are none of only zeros, and none at all if all differ one way. */
    private static void leastAsGreatAsCanBe() {
        Edge.same("20: 5 and 4", Edge.leasts(Edge.with("w5", "x4", "")), "0001 0010 4500");
        Edge.same("20: 4 and 5", Edge.leasts(Edge.with("w4", "x5", "")), "0001 0010 5400");
        Edge.same("20: 5 and 5", Edge.leasts(Edge.with("w5", "x5", "")), "0001 0010 1100");
        Edge.same("20: all the other way", Edge.leasts(Edge.with("", "wxyz", "")), "");
        Edge.same("20: all one way", Edge.leasts(Edge.with("w5x5y5z5", "", "")), "");
        Edge.same("20: full and alike", Edge.leasts(Edge.with(ALL, ALL, "")), "0001 0010 0100 1000");
        Edge.same("20: three and one", Edge.leasts(Edge.with("wxy", "z5", "")),
                "0051 0141 0231 0321 0411 0501 1041 1131 1221 1311 1401 2031 2121 2211 2301 3021 3111 3201 4011 4101"
                + " 5001");
    }

    /** All differences there are, from -5 to 5 for each variable, with solutions of numbers up to 7. */
    private static void leastOfAllDifferences() {
        int most = 0;
        for (int i = 0; i < 14641; i++) {
            int[] d = {i / 1331 - 5, i / 121 % 11 - 5, i / 11 % 11 - 5, i % 11 - 5};
            FactorMatch x = new FactorMatch();
            for (int v = 0; v < 4; v++) {
                x.variable(0, v, Math.max(d[v], 0));
                x.variable(1, v, Math.max(-d[v], 0));
            }
            List<int[]> due = leastOnes(d);
            Edge.same("20: how many of " + i, x.count(4), due.size());
            most = Math.max(most, due.size());
            int greatest = 0;
            for (int place = 0; place < due.size(); place++) {
                int[] n = due.get(place);
                greatest = Math.max(greatest, n[0] + n[1] + n[2] + n[3]);
                for (int v = 0; v < 4; v++) {
                    Edge.same("20: place " + place + " of " + i, x.least(place, v), n[v]);
                    Edge.same("20: at most 5", n[v] <= 5, true);
                }
            }
            Edge.same("20: not one more of " + i, x.least(due.size(), i % 4), -1);
            Edge.same("22: greatest sum of " + i, x.count(5), greatest);
        }
        Edge.same("20: the most there are", most, 30);
    }

    private static List<int[]> leastOnes(int[] d) {
        List<int[]> all = new ArrayList<>();
        // in this order a solution comes behind all others that are at most as great
        for (int i = 1; i < 4096; i++) {
            int[] n = {i >> 9, i >> 6 & 7, i >> 3 & 7, i & 7};
            boolean least = n[0] * d[0] + n[1] * d[1] + n[2] * d[2] + n[3] * d[3] == 0;
            for (int k = 0; least && k < all.size(); k++) {
                int[] m = all.get(k);
                least = m[0] > n[0] || m[1] > n[1] || m[2] > n[2] || m[3] > n[3];
            }
            if (least) {
                all.add(n);
            }
        }
        return all;
    }

    // ---- 21

    private static void sumsEnds() {
        FactorMatch same = new FactorMatch();
        FactorMatch none = Edge.with("wxyz", "", "");
        for (int i = 0; i < 2401; i++) {
            int w = i / 343;
            int x = i / 49 % 7;
            int y = i / 7 % 7;
            int z = i % 7;
            Edge.same("21: alike, " + w + x + y + z, same.sums(w, x, y, z), 1);
            Edge.same("21: of none, " + w + x + y + z, none.sums(w, x, y, z), i == 0 ? 1 : 0);
        }
        for (int wrong : new int[] {-1, 7, Integer.MIN_VALUE, Integer.MAX_VALUE, 256, 65536, -2}) {
            Edge.refused("21: w " + wrong, Stock.BUSY, x -> x.sums(wrong, 0, 0, 0), Edge.ARGUMENT);
            Edge.refused("21: x " + wrong, Stock.BUSY, x -> x.sums(0, wrong, 0, 0), Edge.ARGUMENT);
            Edge.refused("21: y " + wrong, Stock.BUSY, x -> x.sums(0, 0, wrong, 0), Edge.ARGUMENT);
            Edge.refused("21: z " + wrong, Stock.BUSY, x -> x.sums(0, 0, 0, wrong), Edge.ARGUMENT);
            Edge.refused("21: all " + wrong, Stock.BUSY, x -> x.sums(wrong, wrong, wrong, wrong), Edge.ARGUMENT);
        }
    }

    /** In how many ways, by how often each least solution is taken. */
    private static void sumsOfLeastOnes() {
        FactorMatch x = Edge.with("w5x5", "y4z4", "");
        for (int i = 0; i < 30; i++) {
            Edge.same("21: a least one is a sum of itself alone", x.sums(x.least(i, 0), x.least(i, 1), x.least(i, 2),
                    x.least(i, 3)), 1);
        }
        Edge.same("21: four zeros", x.sums(0, 0, 0, 0), 1);
        Edge.same("21: not a solution, by one", x.sums(4, 0, 5, 1), 0);
        Edge.same("21: not a solution, full", x.sums(6, 6, 6, 6), 0);
        FactorMatch pairs = Edge.with("w", "x", "");
        for (int n = 0; n <= 6; n++) {
            Edge.same("21: one way for " + n, pairs.sums(n, n, 6, 0), 1);
            Edge.same("21: none beside " + n, pairs.sums(n, (n + 1) % 7, 6, 0), 0);
        }
        // wx / yz: of n times 1111 any number can be taken crosswise
        FactorMatch cross = Edge.with("wx", "yz", "");
        for (int n = 0; n <= 6; n++) {
            Edge.same("21: crosswise " + n, cross.sums(n, n, n, n), n + 1);
        }
        Edge.same("21: as many as can be", Edge.with("xyz", "w3", "").sums(6, 6, 6, 6), 103);
    }

    // ---- 22

    private static void countFactors() {
        FactorMatch full = Edge.with(ALL, ALL, CONSTANTS);
        for (int p = 0; p < 3; p++) {
            Edge.same("22: no factors of " + p, new FactorMatch().count(p), 0);
            Edge.same("22: all factors of " + p, full.count(p), p < 2 ? 56 : 36);
        }
        String[] patterns = {"a9", "w5", "x5y", "wyz", "wxyz"};
        for (int i = 0; i < 5; i++) {
            Edge.same("22: unlike variables of " + patterns[i], Edge.with(patterns[i], "wxyz", "").count(3), i);
            Edge.same("22: nor the constants of others, " + patterns[i], Edge.with(patterns[i], "abcd", "abcd").count(3),
                    i);
        }
        for (int what : new int[] {-1, 11, Integer.MIN_VALUE, Integer.MAX_VALUE, 256, 65536}) {
            Edge.refused("22: count " + what, Stock.FULL, x -> x.count(what), Edge.ARGUMENT);
        }
    }

    private static void countLeasts() {
        Edge.same("22: no least one", Edge.with("wxyz", "", "").count(4), 0);
        Edge.same("22: no greatest sum", Edge.with("wxyz", "", "").count(5), 0);
        Edge.same("22: four", new FactorMatch().count(4), 4);
        Edge.same("22: each alone", new FactorMatch().count(5), 1);
        Edge.same("22: 30", Edge.with("w5x5", "y4z4", "").count(4), 30);
        Edge.same("22: 30 the other way", Edge.with("w4x4", "y5z5", "").count(4), 30);
        for (int i = 0; i < 4; i++) {
            for (int j = 0; j < 4; j++) {
                if (i != j) {
                    String one = "wxyz".charAt(i) + "5";
                    String two = "wxyz".charAt(j) + "4";
                    Edge.same("22: the greatest sum, " + one + two, Edge.with(one, two, "").count(5), 9);
                    Edge.same("22: without them, " + one, Edge.with(one, "", "").count(5), 1);
                    Edge.same("22: three, " + one, Edge.with(one, "", "").count(4), 3);
                }
            }
        }
    }

    private static void countRests() {
        FactorMatch x = new FactorMatch();
        Edge.same("22: rests of 0 are not below 0", x.count(6), 0);
        for (int c = 0; c < 4; c++) {
            x.constant(0, c, 1);
            Edge.same("22: rests below 0", x.count(6), c + 1);
        }
        for (int c = 0; c < 4; c++) {
            x.constant(2, c, c + 1);
            Edge.same("22: rests of 0 and more", x.count(6), 3 - c);
        }
        Edge.same("22: the other pattern does not count", Edge.with("", CONSTANTS, "").count(6), 0);
    }

    private static void countSame() {
        Edge.same("22: empty patterns", Edge.with("", "", "a").count(7), 1);
        Edge.same("22: full patterns", Edge.with(ALL, ALL, "").count(7), 1);
        for (int f = 0; f < 8; f++) {
            FactorMatch x = Edge.with(ALL, ALL, "");
            FactorMatch y = Edge.with(ALL, ALL, "");
            String less = "abcdwxyz".charAt(f) + (f < 4 ? "8" : "4");
            Edge.put(x, 0, less);
            Edge.put(y, 1, less);
            Edge.same("22: one less, " + less, x.count(7), 0);
            Edge.same("22: one less in the other, " + less, y.count(7), 0);
            Edge.put(x, 1, less);
            Edge.same("22: one less in both, " + less, x.count(7), 1);
        }
    }

    /** Variables are never in common: the subject has none. */
    private static void countCommon() {
        Edge.same("22: full products", Edge.with(ALL, ALL, CONSTANTS).count(8), 36);
        Edge.same("22: empty products", new FactorMatch().count(8), 0);
        Edge.same("22: two only", Edge.with(ALL, ALL, "").count(8), 0);
        Edge.same("22: two others only", Edge.with("", ALL, CONSTANTS).count(8), 0);
        Edge.same("22: the two at the ends only", Edge.with(ALL, "", CONSTANTS).count(8), 0);
        for (int c = 0; c < 4; c++) {
            String sign = "abcd".substring(c, c + 1);
            Edge.same("22: fewest in the pattern", Edge.with(sign, sign + "9", sign + "8").count(8), 1);
            Edge.same("22: fewest in the other", Edge.with(sign + "9", sign + "2", sign + "8").count(8), 2);
            Edge.same("22: fewest in the subject", Edge.with(sign + "9", sign + "8", sign + "3").count(8), 3);
        }
    }

    private static void countKept() {
        FactorMatch x = new FactorMatch();
        Edge.same("22: no snapshot", x.count(9), 0);
        x.take(1);
        Edge.same("22: the second snapshot alone", x.count(9), 1);
        x.take(0);
        Edge.same("22: both", x.count(9), 2);
        for (int i = 1; i <= 8; i++) {
            x.restore(i % 2);
            Edge.same("22: saved states", x.count(10), Math.min(6, i));
            Edge.same("22: both stay", x.count(9), 2);
        }
        for (int i = 5; i >= 0; i--) {
            x.undo();
            Edge.same("22: saved states left", x.count(10), i);
        }
    }

    // ---- 23

    private static void settingEnds() {
        FactorMatch x = set(new FactorMatch(), 0, 0);
        Edge.same("23: both at 0", x.setting(0) + x.setting(1), 0);
        x.set(0, 1);
        Edge.same("23: setting 0", x.setting(0), 1);
        Edge.same("23: setting 1", x.setting(1), 0);
        x.set(1, 9);
        Edge.same("23: setting 0 stays", x.setting(0), 1);
        Edge.same("23: setting 1 is 9", x.setting(1), 9);
        for (int wrong : new int[] {-1, 2, Integer.MIN_VALUE, Integer.MAX_VALUE, 256, 65536}) {
            Edge.refused("23: setting " + wrong, Stock.LOW, y -> y.setting(wrong), Edge.BOUNDS);
        }
    }
}
