/** Promises 1 to 7: for each sentence that names a boundary case a test of its own. */
final class EdgesOfProducts {
    private static final String ALL = "a9b9c9d9w5x5y5z5";
    private static final String CONSTANTS = "a9b9c9d9";

    public static void main(String[] args) {
        newObject();
        objectsAreApart();
        constantTimes();
        variableTimes();
        orderOfFactors();
        multiplyToTheLimits();
        multiplyWithItself();
        multiplyTheSubject();
        multiplyEmptyAndFull();
        rewriteNumbers();
        rewriteToTheLimits();
        rewriteForeignVariables();
        rewriteEmptyAndFull();
        rewriteAfterOtherCalls();
        cancelEmptyAndFull();
        cancelAlike();
        cancelNothing();
        settings();
        Check.end();
    }

    // ---- 1

    private static void newObject() {
        FactorMatch x = new FactorMatch();
        Edge.same("1: empty products", Edge.told(x), "1 1 1 19");
        Edge.same("1: values can be empty", x.setting(0), 1);
        Edge.same("1: setting 1 is 9", x.setting(1), 9);
        Edge.same("1: an empty buffer", new FactorMatch().clearBuffer(), 0);
        Edge.same("1: no error in it", x.firstError(), 0);
        Edge.refused("1: nothing to read", FactorMatch::new, y -> y.read(0), Edge.ARGUMENT);
        Edge.refused("Terms: at first there is no snapshot 0", FactorMatch::new, y -> y.restore(0), Edge.STATE);
        Edge.refused("Terms: at first there is no snapshot 1", FactorMatch::new, y -> y.restore(1), Edge.STATE);
        Edge.refused("1: nothing to undo", FactorMatch::new, y -> y.undo(), Edge.STATE);
        int[] counts = {0, 0, 0, 0, 4, 1, 0, 1, 0, 0, 0};
        for (int what = 0; what <= 10; what++) {
            Edge.same("1: count " + what, x.count(what), counts[what]);
        }
        Edge.same("NONE", FactorMatch.NONE, -1);
    }

    private static void objectsAreApart() {
        FactorMatch one = new FactorMatch();
        FactorMatch two = new FactorMatch();
        Edge.put(one, 0, ALL);
        Edge.put(one, 2, CONSTANTS);
        Edge.type(one, "abc");
        one.take(0);
        one.take(1);
        one.set(0, 0);
        one.matchers(0);
        one.sums(6, 6, 6, 6);
        Edge.same("1: another object stays new", Edge.whole(two), Edge.whole(new FactorMatch()));
    }

    // ---- 2, 3

    /** Each constant 0 to 9 times; returns how often it had it. */
    private static void constantTimes() {
        for (int p = 0; p < 3; p++) {
            for (int c = 0; c < 4; c++) {
                FactorMatch x = new FactorMatch();
                String what = "2: constant " + c + " of " + p;
                Edge.same(what + ", to 0 from 0", x.constant(p, c, 0), 0);
                for (int n = 1; n <= 9; n++) {
                    Edge.same(what + ", to " + n, x.constant(p, c, n), n - 1);
                    Edge.same(what + ", is " + n, x.times(p, c), n);
                }
                Edge.same(what + ", 9 again", x.constant(p, c, 9), 9);
                Edge.same(what + ", to 0", x.constant(p, c, 0), 9);
                Edge.same(what + ", all is empty again", Edge.told(x), "1 1 1 19");
                int product = p;
                int constant = c;
                Edge.refused(what + ", 10 times", Stock.BUSY, y -> y.constant(product, constant, 10), Edge.ARGUMENT);
                Edge.refused(what + ", -1 times", Stock.BUSY, y -> y.constant(product, constant, -1), Edge.ARGUMENT);
                // just this number changes
                FactorMatch full = Edge.with(ALL, ALL, CONSTANTS);
                full.constant(p, c, 8);
                for (int i = 0; i < 24; i++) {
                    int due = i == p * 8 + c ? 8 : i % 8 < 4 ? 9 : i / 8 < 2 ? 5 : 0;
                    Edge.same(what + ", then " + i, full.times(i / 8, i % 8), due);
                }
            }
        }
    }

    /** Each variable 0 to 5 times, in the two patterns alone. */
    private static void variableTimes() {
        for (int v = 0; v < 4; v++) {
            int variable = v;
            for (int p = 0; p < 2; p++) {
                FactorMatch x = new FactorMatch();
                String what = "3: variable " + v + " of " + p;
                Edge.same(what + ", to 0 from 0", x.variable(p, v, 0), 0);
                for (int n = 1; n <= 5; n++) {
                    Edge.same(what + ", to " + n, x.variable(p, v, n), n - 1);
                    Edge.same(what + ", is " + n, x.times(p, 4 + v), n);
                }
                Edge.same(what + ", 5 again", x.variable(p, v, 5), 5);
                Edge.same(what + ", to 0", x.variable(p, v, 0), 5);
                Edge.same(what + ", all is empty again", Edge.told(x), "1 1 1 19");
                int pattern = p;
                Edge.refused(what + ", 6 times", Stock.BUSY, y -> y.variable(pattern, variable, 6), Edge.ARGUMENT);
                Edge.refused(what + ", -1 times", Stock.BUSY, y -> y.variable(pattern, variable, -1), Edge.ARGUMENT);
                FactorMatch full = Edge.with(ALL, ALL, CONSTANTS);
                full.variable(p, v, 4);
                for (int i = 0; i < 24; i++) {
                    int due = i == p * 8 + 4 + v ? 4 : i % 8 < 4 ? 9 : i / 8 < 2 ? 5 : 0;
                    Edge.same(what + ", then " + i, full.times(i / 8, i % 8), due);
                }
            }
            Edge.refused("3: the subject has no variables", Stock.BUSY, y -> y.variable(2, variable, 1), Edge.BOUNDS);
            Edge.refused("3: nor none of them", Stock.BUSY, y -> y.variable(2, variable, 0), Edge.BOUNDS);
            Edge.refused("3: the subject comes first", Stock.BUSY, y -> y.variable(2, variable, 6), Edge.BOUNDS);
        }
    }

    /** The order of factors does not matter. */
    private static void orderOfFactors() {
        FactorMatch x = Edge.typed("z2bwab");
        x.read(0);
        Edge.type(x, "wabbzz");
        x.read(1);
        Edge.same("Terms: the same product in another order", x.count(7), 1);
        Edge.same("Terms: told so", Edge.told(x), "ab2wz2 ab2wz2 1 19");
    }

    // ---- 4

    /** A constant 9 times and a variable 5 times is not too much, one more is. */
    private static void multiplyToTheLimits() {
        for (int f = 0; f < 8; f++) {
            int most = f < 4 ? 9 : 5;
            String sign = String.valueOf("abcdwxyz".charAt(f));
            for (int n = 0; n <= most; n++) {
                String one = sign + n;
                String rest = sign + (most - n);
                Edge.answers("4: " + one + " with " + rest, () -> Edge.with(one, rest, ""), x -> x.multiply(0, 1), most);
                Edge.answers("4: " + rest + " with " + one, () -> Edge.with(one, rest, ""), x -> x.multiply(1, 0), most);
                if (n > 0) {
                    String more = sign + (most - n + 1);
                    Edge.refused("4: " + one + " with " + more, () -> Edge.with(one, more, ""), x -> x.multiply(0, 1),
                            Edge.STATE);
                    Edge.refused("4: " + more + " with " + one, () -> Edge.with(one, more, ""), x -> x.multiply(1, 0),
                            Edge.STATE);
                }
            }
        }
        Edge.answers("4: a pattern with the subject, 9", () -> Edge.with("d4", "", "d5"), x -> x.multiply(0, 2), 9);
        Edge.refused("4: a pattern with the subject, 10", () -> Edge.with("", "d5", "d5"), x -> x.multiply(1, 2),
                Edge.STATE);
    }

    /** Perhaps with itself. */
    private static void multiplyWithItself() {
        Edge.answers("4: all 4 and 2 times", () -> Edge.with("a4b4c4d4w2x2y2z2", "", ""), x -> x.multiply(0, 0), 48);
        Edge.answers("4: the subject, all 4 times", () -> Edge.with("", "", "a4b4c4d4"), x -> x.multiply(2, 2), 32);
        for (int i = 0; i < 8; i++) {
            int f = i;
            String sign = "abcdwxyz".charAt(f) + (f < 4 ? "5" : "3");
            Edge.refused("4: with itself, " + sign, () -> Edge.with("", sign, ""), x -> x.multiply(1, 1), Edge.STATE);
            if (f < 4) {
                Edge.refused("4: the subject with itself, " + sign, () -> Edge.with("", "", sign),
                        x -> x.multiply(2, 2), Edge.STATE);
            }
        }
    }

    /** The subject has no variables; the other product's variables are looked at, not how often it has them. */
    private static void multiplyTheSubject() {
        for (char v : "wxyz".toCharArray()) {
            Edge.refused("4: the subject with the pattern " + v, () -> Edge.with("a" + v, "", "a"),
                    x -> x.multiply(2, 0), Edge.STATE);
            Edge.refused("4: the subject with the other pattern " + v, () -> Edge.with("", "" + v, "a"),
                    x -> x.multiply(2, 1), Edge.STATE);
            Edge.answers("4: the pattern " + v + " with the subject", () -> Edge.with(v + "5", "", "a"),
                    x -> x.multiply(0, 2), 6);
        }
        Edge.answers("4: the subject with a pattern of constants", () -> Edge.with("a4d9", "w", "a5"),
                x -> x.multiply(2, 0), 18);
        Edge.refused("4: one too many", () -> Edge.with("a5d9", "w", "a5"), x -> x.multiply(2, 0), Edge.STATE);
    }

    private static void multiplyEmptyAndFull() {
        for (int p = 0; p < 3; p++) {
            for (int o = 0; o < 3; o++) {
                int product = p;
                int other = o;
                Edge.answers("4: empty ones", FactorMatch::new, x -> x.multiply(product, other), 0);
                Edge.refused("4: full ones", () -> Edge.with(ALL, ALL, CONSTANTS), x -> x.multiply(product, other),
                        Edge.STATE);
            }
        }
        Edge.answers("4: a full one with an empty one", () -> Edge.with(ALL, "", ""), x -> x.multiply(0, 1), 56);
        Edge.answers("4: an empty one with a full one", () -> Edge.with("", ALL, ""), x -> x.multiply(0, 1), 56);
        Edge.answers("4: an empty subject with a full pattern", () -> Edge.with(CONSTANTS, "", ""),
                x -> x.multiply(2, 0), 36);
        Edge.refused("4: no such product comes before too many", () -> Edge.with(ALL, ALL, CONSTANTS),
                x -> x.multiply(2, 3), Edge.BOUNDS);
        Edge.refused("4: no such product, the first one", () -> Edge.with(ALL, ALL, CONSTANTS),
                x -> x.multiply(3, 0), Edge.BOUNDS);
    }

    // ---- 5

    /** The matcher is one of those that there are: by both settings, and with no rest below 0. */
    private static void rewriteNumbers() {
        Edge.Recipe four = () -> Edge.with("wx", "w", "a3");
        // w is empty, a, a2, a3
        for (int m = 0; m < 4; m++) {
            int matcher = m;
            Edge.answers("5: matcher " + m, four, x -> x.rewrite(matcher), m);
        }
        Edge.refused("5: matcher 4 of four", four, x -> x.rewrite(4), Edge.ARGUMENT);
        Edge.refused("5: matcher -1", four, x -> x.rewrite(-1), Edge.ARGUMENT);
        Edge.refused("5: a number that wraps around", four, x -> x.rewrite(Integer.MIN_VALUE), Edge.ARGUMENT);
        Edge.Recipe filled = () -> changed(four.make(), 0, 0);
        Edge.answers("5: not empty, matcher 0", filled, x -> x.rewrite(0), 1);
        Edge.answers("5: not empty, matcher 1", filled, x -> x.rewrite(1), 2);
        Edge.refused("5: not empty, matcher 2", filled, x -> x.rewrite(2), Edge.ARGUMENT);
        Edge.Recipe two = () -> changed(four.make(), 1, 2);
        Edge.answers("5: at most 2, matcher 0", two, x -> x.rewrite(0), 1);
        Edge.answers("5: at most 2, matcher 1", two, x -> x.rewrite(1), 2);
        Edge.refused("5: at most 2, matcher 2", two, x -> x.rewrite(2), Edge.ARGUMENT);
        Edge.refused("5: a rest below 0", () -> Edge.with("aw", "w", "b"), x -> x.rewrite(0), Edge.ARGUMENT);
        Edge.answers("5: a rest of 0", () -> Edge.with("aw", "w", "a"), x -> x.rewrite(0), 0);
        Edge.refused("5: at most 0", () -> changed(four.make(), 1, 0), x -> x.rewrite(0), Edge.ARGUMENT);
    }

    private static FactorMatch changed(FactorMatch x, int setting, int value) {
        x.set(setting, value);
        return x;
    }

    /** A constant 9 times is not too much, 10 times is. */
    private static void rewriteToTheLimits() {
        for (char c : "abcd".toCharArray()) {
            Edge.answers("5: 9 by the values, " + c, () -> Edge.with("w", "w3", c + "3"), x -> x.rewrite(0), 9);
            Edge.refused("5: 12 by the values, " + c, () -> Edge.with("w", "w4", c + "3"), x -> x.rewrite(0),
                    Edge.STATE);
            Edge.answers("5: 9 with the pattern's own, " + c, () -> Edge.with("w", c + "w2", c + "4"),
                    x -> x.rewrite(0), 9);
            Edge.refused("5: 10 with the pattern's own, " + c, () -> Edge.with("w", c + "2w2", c + "4"),
                    x -> x.rewrite(0), Edge.STATE);
        }
        // the values of two matchers: w is empty and x is a2, w is a and x is a, or w is a2 and x is empty
        Edge.Recipe two = () -> Edge.with("wx", "w5x4", "a2");
        Edge.answers("5: 8 by one matcher", two, x -> x.rewrite(0), 8);
        Edge.answers("5: 9 by another one", two, x -> x.rewrite(1), 9);
        Edge.refused("5: 10 by the third", two, x -> x.rewrite(2), Edge.STATE);
        Edge.refused("5: no such matcher comes before too many", two, x -> x.rewrite(3), Edge.ARGUMENT);
    }

    private static void rewriteForeignVariables() {
        String signs = "wxyz";
        for (int v = 0; v < 4; v++) {
            String sign = signs.substring(v, v + 1);
            String others = signs.replace(sign, "");
            Edge.refused("5: " + sign + " has no value", () -> Edge.with(others, sign, ""), x -> x.rewrite(0),
                    Edge.STATE);
            Edge.answers("5: " + sign + " alone has a value", () -> Edge.with(sign, sign + "5", "a"),
                    x -> x.rewrite(0), 5);
            Edge.answers("5: " + sign + " may be missing", () -> Edge.with(signs, others, ""), x -> x.rewrite(0), 0);
            Edge.refused("5: no such matcher comes before " + sign, () -> Edge.with(others, sign, ""),
                    x -> x.rewrite(1), Edge.ARGUMENT);
        }
        Edge.refused("5: no value, and too many", () -> Edge.with("w", "w5x", "a9"), x -> x.rewrite(0), Edge.STATE);
    }

    private static void rewriteEmptyAndFull() {
        Edge.answers("5: all are empty", FactorMatch::new, x -> x.rewrite(0), 0);
        Edge.refused("5: all are empty, matcher 1", FactorMatch::new, x -> x.rewrite(1), Edge.ARGUMENT);
        FactorMatch x = Edge.with("w", "", CONSTANTS);
        Edge.same("5: by an empty pattern", x.rewrite(0), 0);
        Edge.same("5: by an empty pattern, told", Edge.told(x), "w 1 1 19");
        FactorMatch full = Edge.with("w", CONSTANTS, "");
        Edge.same("5: by full constants", full.rewrite(0), 36);
        Edge.same("5: by full constants, told", Edge.told(full), "w a9b9c9d9 a9b9c9d9 19");
        FactorMatch same = Edge.with("w", "w", CONSTANTS);
        Edge.same("5: to the same, full", same.rewrite(0), 36);
        Edge.same("5: no variables in the subject", same.times(2, 4) + same.times(2, 5) + same.times(2, 6)
                + same.times(2, 7), 0);
        FactorMatch many = Edge.with("wxyz", "w", CONSTANTS);
        // the last number that an int can tell is one of the matchers: 201 of a's 220 solutions go before it
        int inW = many.ifRewritten(Integer.MAX_VALUE, 0) + many.ifRewritten(Integer.MAX_VALUE, 1)
                + many.ifRewritten(Integer.MAX_VALUE, 2) + many.ifRewritten(Integer.MAX_VALUE, 3);
        Edge.same("5: the greatest number", many.rewrite(Integer.MAX_VALUE), inW);
        Edge.same("5: the greatest number, told", many.times(2, 0), 6);
    }

    /** What was read, multiplied or rewritten before is no part of it. */
    private static void rewriteAfterOtherCalls() {
        FactorMatch x = Edge.with("", "ab", "c2");
        Edge.type(x, "w2z5");
        x.read(0);
        x.multiply(1, 0);
        Edge.same("5: z is empty", x.rewrite(0), 4);
        x.undo();
        x.variable(0, 3, 0);
        Edge.same("5: a variable without a value", Check.answer(() -> x.rewrite(0)), Edge.STATE);
        x.variable(1, 3, 0);
        Edge.same("5: after a pattern was multiplied", x.rewrite(0), 4);
        Edge.same("5: told", Edge.told(x), "w2 abw2 abc2 19");
        Edge.same("5: none is left", Check.answer(() -> x.rewrite(0)), Edge.ARGUMENT);
        x.undo();
        Edge.type(x, "w2y3");
        x.read(1);
        Edge.same("5: a variable that was read", Check.answer(() -> x.rewrite(0)), Edge.STATE);
        Edge.type(x, "aw");
        x.read(1);
        Edge.same("5: after a pattern was read", x.rewrite(0), 2);
        Edge.same("5: told again", Edge.told(x), "w2 aw ac 19");
    }

    // ---- 6

    private static void cancelEmptyAndFull() {
        for (int p = 0; p < 3; p++) {
            for (int o = 0; o < 3; o++) {
                int product = p;
                int other = o;
                String what = "6: " + p + " and " + o;
                Edge.answers(what + ", empty", FactorMatch::new, x -> x.cancel(product, other), 0);
                FactorMatch x = Edge.with(ALL, ALL, CONSTANTS);
                int due = p < 2 && o < 2 ? 56 : 36;
                Edge.same(what + ", full", x.cancel(p, o), due);
                // with the subject only constants go
                String left = due == 56 ? "1" : "w5x5y5z5";
                Edge.same(what + ", told 0", Edge.tell(x, 0), p == 0 || o == 0 ? left : ALL);
                Edge.same(what + ", told 1", Edge.tell(x, 1), p == 1 || o == 1 ? left : ALL);
                Edge.same(what + ", told 2", Edge.tell(x, 2), p == 2 || o == 2 ? "1" : CONSTANTS);
            }
        }
    }

    /** Of a product and itself all is taken. */
    private static void cancelAlike() {
        for (int p = 0; p < 3; p++) {
            FactorMatch x = Edge.with("a3bw2", "c2d9xz5", "d4");
            int[] had = {6, 17, 4};
            Edge.same("6: itself " + p, x.cancel(p, p), had[p]);
            Edge.same("6: itself is empty " + p, Edge.tell(x, p), "1");
            Edge.same("6: the others stay " + p, x.count(0) + x.count(1) + x.count(2), 27 - had[p]);
            Edge.same("6: nothing is left " + p, x.cancel(p, p), 0);
        }
        FactorMatch y = Edge.with("a2w3", "a2w3", "");
        Edge.same("6: two that are the same", y.cancel(1, 0), 5);
        Edge.same("6: both are empty", Edge.told(y), "1 1 1 19");
    }

    /** As often as both have it: none where one has none, and the smaller number otherwise. */
    private static void cancelNothing() {
        FactorMatch x = Edge.with("abwx", "cdyz", "cd");
        Edge.same("6: nothing in common", x.cancel(0, 1), 0);
        Edge.same("6: nothing in common with the subject", x.cancel(2, 0), 0);
        Edge.same("6: all stays", Edge.told(x), "abwx cdyz cd 19");
        for (int f = 0; f < 8; f++) {
            String sign = "abcdwxyz".substring(f, f + 1);
            FactorMatch y = Edge.with(sign + "4", sign + "3", "");
            Edge.same("6: the smaller one, " + sign, y.cancel(0, 1), 3);
            Edge.same("6: one is left, " + sign, y.times(0, f) + 10 * y.times(1, f), 1);
            FactorMatch z = Edge.with(sign + "3", sign + "4", "");
            Edge.same("6: the smaller one first, " + sign, z.cancel(0, 1), 3);
            Edge.same("6: one is left in the other, " + sign, z.times(0, f) + 10 * z.times(1, f), 10);
        }
    }

    // ---- 7

    private static void settings() {
        FactorMatch x = new FactorMatch();
        int before = 9;
        for (int n : new int[] {0, 9, 1, 8, 2, 7, 3, 6, 4, 5}) {
            Edge.same("7: setting 1 to " + n, x.set(1, n), before);
            Edge.same("7: setting 1 is " + n, x.setting(1), n);
            Edge.same("7: setting 0 stays", x.setting(0), 1);
            before = n;
        }
        Edge.same("7: setting 0 to 0", x.set(0, 0), 1);
        Edge.same("7: setting 0 is 0", x.setting(0), 0);
        Edge.same("7: setting 0 to 0 again", x.set(0, 0), 0);
        Edge.same("7: setting 0 to 1", x.set(0, 1), 0);
        Edge.same("7: setting 1 stays", x.setting(1), 5);
        Edge.refused("7: setting 0 to 2", Stock.BUSY, y -> y.set(0, 2), Edge.ARGUMENT);
        Edge.refused("7: setting 0 to -1", Stock.BUSY, y -> y.set(0, -1), Edge.ARGUMENT);
        Edge.refused("7: setting 0 to 9", Stock.BUSY, y -> y.set(0, 9), Edge.ARGUMENT);
        Edge.refused("7: setting 1 to 10", Stock.BUSY, y -> y.set(1, 10), Edge.ARGUMENT);
        Edge.refused("7: setting 1 to -1", Stock.BUSY, y -> y.set(1, -1), Edge.ARGUMENT);
    }
}
