/** Each promise of the document by hand: ordinary inputs, the edges that it names, and wrong inputs. */
final class FactorMatchPromises {
    private static final Class<IndexOutOfBoundsException> BOUNDS = IndexOutOfBoundsException.class;
    private static final Class<IllegalArgumentException> ARGUMENT = IllegalArgumentException.class;
    private static final Class<IllegalStateException> STATE = IllegalStateException.class;

    public static void main(String[] args) {
        newObject();
        constant();
        variable();
        multiply();
        rewrite();
        cancel();
        set();
        append();
        clearBuffer();
        firstError();
        read();
        take();
        restore();
        undo();
        undoableCalls();
        times();
        rest();
        solutions();
        matchers();
        matchersWithoutEmptyValues();
        value();
        least();
        sums();
        count();
        setting();
        ifMore();
        ifRewritten();
        shortest();
        openShare();
        digest();
        looksChangeNothing();
        Check.end();
    }

    private static void type(FactorMatch x, String text) {
        for (char c : text.toCharArray()) {
            x.append(c);
        }
    }

    /** Pattern, other pattern, subject. */
    private static FactorMatch with(String pattern, String other, String subject) {
        FactorMatch x = new FactorMatch();
        put(x, 0, pattern);
        put(x, 1, other);
        put(x, 2, subject);
        return x;
    }

    private static void put(FactorMatch x, int product, String text) {
        type(x, text);
        x.read(product);
    }

    private static String tell(FactorMatch x, int product) {
        StringBuilder all = new StringBuilder();
        for (int f = 0; f < 8; f++) {
            int n = x.times(product, f);
            all.append(n == 0 ? "" : "abcdwxyz".charAt(f) + (n == 1 ? "" : String.valueOf(n)));
        }
        return all.length() == 0 ? "1" : all.toString();
    }

    private static String told(FactorMatch x) {
        return tell(x, 0) + " " + tell(x, 1) + " " + tell(x, 2);
    }

    private static String row(FactorMatch x, int matcher) {
        StringBuilder all = new StringBuilder();
        for (int v = 0; v < 4; v++) {
            all.append(v == 0 ? "" : " ");
            for (int c = 0; c < 4; c++) {
                int n = x.value(matcher, v, c);
                all.append(n == -1 ? "-" : String.valueOf(n));
            }
        }
        return all.toString();
    }

    private static String leasts(FactorMatch x) {
        StringBuilder all = new StringBuilder();
        for (int i = 0; x.least(i, 0) != -1; i++) {
            all.append(i == 0 ? "" : " ");
            for (int v = 0; v < 4; v++) {
                all.append(x.least(i, v));
            }
        }
        return all.toString();
    }

    private static void newObject() {
        FactorMatch x = new FactorMatch();
        Check.same("1: products", told(x), "1 1 1");
        Check.same("1: setting 0", x.setting(0), 1);
        Check.same("1: setting 1", x.setting(1), 9);
        Check.same("1: buffer", x.clearBuffer(), 0);
        Check.same("1: saved states", x.count(10), 0);
        Check.same("1: snapshots", x.count(9), 0);
        Check.same("1: NONE", FactorMatch.NONE, -1);
        FactorMatch y = new FactorMatch();
        y.constant(0, 0, 5);
        Check.same("1: objects are apart", told(x), "1 1 1");
    }

    private static void constant() {
        FactorMatch x = new FactorMatch();
        Check.same("2: first", x.constant(0, 0, 9), 0);
        Check.same("2: again", x.constant(0, 0, 2), 9);
        Check.same("2: the same", x.constant(0, 0, 2), 2);
        Check.same("2: other", x.constant(1, 3, 1), 0);
        Check.same("2: subject", x.constant(2, 2, 4), 0);
        Check.same("2: told", told(x), "a2 d c4");
        Check.same("2: saved", x.count(10), 5);
        Check.same("2: to none", x.constant(2, 2, 0), 4);
        Check.refused(x, "2: product 3", BOUNDS, () -> x.constant(3, 0, 1));
        Check.refused(x, "2: product -1", BOUNDS, () -> x.constant(-1, 0, 1));
        Check.refused(x, "2: constant 4", BOUNDS, () -> x.constant(0, 4, 1));
        Check.refused(x, "2: constant -1", BOUNDS, () -> x.constant(0, -1, 1));
        Check.refused(x, "2: 10 times", ARGUMENT, () -> x.constant(0, 0, 10));
        Check.refused(x, "2: -1 times", ARGUMENT, () -> x.constant(0, 0, -1));
        Check.refused(x, "2: the index comes first", BOUNDS, () -> x.constant(0, 4, 10));
        Check.refused(x, "2: far out", BOUNDS, () -> x.constant(Integer.MIN_VALUE, Integer.MAX_VALUE, 1));
    }

    private static void variable() {
        FactorMatch x = new FactorMatch();
        Check.same("3: first", x.variable(0, 0, 5), 0);
        Check.same("3: again", x.variable(0, 0, 3), 5);
        Check.same("3: other", x.variable(1, 3, 1), 0);
        Check.same("3: told", told(x), "w3 z 1");
        Check.same("3: to none", x.variable(1, 3, 0), 1);
        Check.same("3: back", x.variable(1, 3, 1), 0);
        Check.same("3: saved", x.count(10), 5);
        Check.refused(x, "3: the subject", BOUNDS, () -> x.variable(2, 0, 0));
        Check.refused(x, "3: pattern -1", BOUNDS, () -> x.variable(-1, 0, 0));
        Check.refused(x, "3: variable 4", BOUNDS, () -> x.variable(0, 4, 0));
        Check.refused(x, "3: variable -1", BOUNDS, () -> x.variable(0, -1, 0));
        Check.refused(x, "3: 6 times", ARGUMENT, () -> x.variable(0, 0, 6));
        Check.refused(x, "3: -1 times", ARGUMENT, () -> x.variable(0, 0, -1));
        Check.refused(x, "3: the index comes first", BOUNDS, () -> x.variable(2, 0, 6));
    }

    private static void multiply() {
        FactorMatch x = with("a2w", "abx2", "c");
        Check.same("4: with another", x.multiply(0, 1), 7);
        Check.same("4: told", told(x), "a3bwx2 abx2 c");
        Check.same("4: with itself", x.multiply(1, 1), 8);
        Check.same("4: told again", told(x), "a3bwx2 a2b2x4 c");
        Check.same("4: pattern with the subject", x.multiply(0, 2), 8);
        Check.same("4: to 9", x.constant(2, 2, 8), 1);
        Check.same("4: just 9", x.multiply(0, 2), 16);
        Check.same("4: nine", x.times(0, 2), 9);
        Check.refused(x, "4: constant above 9", STATE, () -> x.multiply(2, 2));
        Check.refused(x, "4: variable above 5", STATE, () -> x.multiply(1, 1));
        Check.refused(x, "4: subject with a variable", STATE, () -> x.multiply(2, 1));
        Check.refused(x, "4: product 3", BOUNDS, () -> x.multiply(3, 0));
        Check.refused(x, "4: other -1", BOUNDS, () -> x.multiply(2, -1));
        FactorMatch y = with("ab", "w5", "a8");
        Check.same("4: subject with a pattern of constants", y.multiply(2, 0), 10);
        Check.same("4: variable to 5", y.multiply(0, 1), 7);
        Check.same("4: saved", y.count(10), 5);
        Check.refused(y, "4: subject above 9", STATE, () -> y.multiply(2, 2));
        Check.same("4: empty with itself", new FactorMatch().multiply(2, 2), 0);
    }

    private static void rewrite() {
        FactorMatch x = with("awx", "cw2x", "ab2d");
        Check.same("5: matchers", x.matchers(0), 6);
        // b: 02, 11, 20; d: 01, 10
        Check.same("5: matcher 3", row(x, 3), "0101 0100 ---- ----");
        Check.same("5: rewritten", x.rewrite(3), 6);
        Check.same("5: told", told(x), "awx cw2x b3cd2");
        Check.same("5: no match now", x.matchers(0), 0);
        Check.refused(x, "5: no matcher", ARGUMENT, () -> x.rewrite(0));
        Check.same("5: undone", x.undo(), 3);
        Check.same("5: told after undo", told(x), "awx cw2x ab2d");
        Check.refused(x, "5: matcher 6", ARGUMENT, () -> x.rewrite(6));
        Check.refused(x, "5: matcher -1", ARGUMENT, () -> x.rewrite(-1));
        FactorMatch y = with("w", "wy", "a");
        Check.refused(y, "5: a variable without a value", STATE, () -> y.rewrite(0));
        Check.refused(y, "5: no matcher comes first", ARGUMENT, () -> y.rewrite(1));
        FactorMatch v = with("x", "w", "a");
        Check.refused(v, "5: the variable 0 without a value", STATE, () -> v.rewrite(0));
        FactorMatch z = with("w", "aw2", "a4");
        Check.same("5: just 9", z.rewrite(0), 9);
        Check.refused(z, "5: above 9", STATE, () -> z.rewrite(0));
        FactorMatch e = new FactorMatch();
        Check.same("5: empty", e.rewrite(0), 0);
        Check.same("5: saved all the same", e.count(10), 1);
        FactorMatch k = with("awx", "bw", "ac3");
        Check.same("5: a variable may vanish", k.rewrite(1), 2);
        Check.same("5: told so", tell(k, 2), "bc");
    }

    private static void cancel() {
        FactorMatch x = with("a3bw2x", "a2c2w5", "a9b9");
        Check.same("6: two patterns", x.cancel(0, 1), 4);
        Check.same("6: told", told(x), "abx c2w3 a9b9");
        Check.same("6: with the subject", x.cancel(2, 0), 2);
        Check.same("6: told again", told(x), "x c2w3 a8b8");
        Check.same("6: nothing in common", x.cancel(0, 1), 0);
        Check.same("6: saved all the same", x.count(10), 6);
        Check.same("6: itself", x.cancel(1, 1), 5);
        Check.same("6: all taken", told(x), "x 1 a8b8");
        Check.same("6: empty", x.cancel(1, 1), 0);
        Check.refused(x, "6: product 3", BOUNDS, () -> x.cancel(3, 0));
        Check.refused(x, "6: other 3", BOUNDS, () -> x.cancel(0, 3));
        Check.refused(x, "6: product -1", BOUNDS, () -> x.cancel(-1, 0));
        Check.refused(x, "6: other -1", BOUNDS, () -> x.cancel(0, -1));
    }

    private static void set() {
        FactorMatch x = new FactorMatch();
        Check.same("7: setting 0", x.set(0, 0), 1);
        Check.same("7: setting 0 back", x.set(0, 1), 0);
        Check.same("7: setting 1", x.set(1, 0), 9);
        Check.same("7: setting 1 back", x.set(1, 9), 0);
        Check.same("7: setting 0 is apart", x.setting(0), 1);
        Check.same("7: saved", x.count(10), 4);
        Check.refused(x, "7: setting 2", BOUNDS, () -> x.set(2, 0));
        Check.refused(x, "7: setting -1", BOUNDS, () -> x.set(-1, 0));
        Check.refused(x, "7: setting 0 to 2", ARGUMENT, () -> x.set(0, 2));
        Check.refused(x, "7: setting 0 to -1", ARGUMENT, () -> x.set(0, -1));
        Check.refused(x, "7: setting 1 to 10", ARGUMENT, () -> x.set(1, 10));
        Check.refused(x, "7: setting 1 to -1", ARGUMENT, () -> x.set(1, -1));
        Check.refused(x, "7: the index comes first", BOUNDS, () -> x.set(2, 10));
    }

    private static void append() {
        FactorMatch x = new FactorMatch();
        Check.same("8: lowest", x.append(33), 1);
        Check.same("8: highest", x.append(126), 2);
        Check.refused(x, "8: 32", ARGUMENT, () -> x.append(32));
        Check.refused(x, "8: 127", ARGUMENT, () -> x.append(127));
        for (int i = 3; i <= 60; i++) {
            Check.same("8: length", x.append('a'), i);
        }
        Check.refused(x, "8: full", STATE, () -> x.append('a'));
        Check.refused(x, "8: the code comes first", ARGUMENT, () -> x.append(0));
        Check.same("8: not undoable", x.count(10), 0);
        Check.same("8: 60", x.clearBuffer(), 60);
    }

    private static void clearBuffer() {
        FactorMatch x = new FactorMatch();
        Check.same("9: empty", x.clearBuffer(), 0);
        type(x, "?!1");
        Check.same("9: three", x.clearBuffer(), 3);
        Check.same("9: empty again", x.clearBuffer(), 0);
        Check.same("9: not undoable", x.count(10), 0);
        Check.same("9: from the start", x.append('a'), 1);
        Check.same("9: nothing left of it", x.firstError(), 1);
    }

    private static void firstError() {
        String[] texts = {"", "1", "a", "d9z2", "abcdwxyz", "a2a2a2", "a9a9a9", "z",
            "11", "1a", "2", "e", "v", "a1", "a0", "a22", "a2b1", "aA", "ab*c", "0", "w2x3}", "{a", "12", "`", "za2!"};
        int[] due = {0, 1, 1, 4, 8, 6, 6, 1,
            1, 1, 0, 0, 0, 1, 1, 2, 3, 1, 2, 0, 4, 0, 1, 0, 3};
        for (int i = 0; i < texts.length; i++) {
            FactorMatch x = new FactorMatch();
            type(x, texts[i]);
            Check.same("10: '" + texts[i] + "'", x.firstError(), due[i]);
            Check.same("10: '" + texts[i] + "' stays", x.clearBuffer(), texts[i].length());
        }
        FactorMatch x = new FactorMatch();
        type(x, "a2b3".repeat(15));
        Check.same("10: 60 characters", x.firstError(), 60);
    }

    private static void read() {
        FactorMatch x = new FactorMatch();
        type(x, "ba2bz5ca");
        Check.same("11: pattern", x.read(0), 11);
        Check.same("11: told", told(x), "a3b2cz5 1 1");
        Check.same("11: cleared", x.clearBuffer(), 0);
        Check.same("11: undoable", x.count(10), 1);
        type(x, "d9");
        Check.same("11: subject", x.read(2), 9);
        type(x, "1");
        Check.same("11: replaces", x.read(0), 0);
        Check.same("11: told again", told(x), "1 1 d9");
        Check.refused(x, "11: an empty buffer", ARGUMENT, () -> x.read(0));
        Check.refused(x, "11: product 3 comes first", BOUNDS, () -> x.read(3));
        type(x, "a1");
        Check.refused(x, "11: an error", ARGUMENT, () -> x.read(0));
        Check.refused(x, "11: product -1", BOUNDS, () -> x.read(-1));
        Check.same("11: stays", x.clearBuffer(), 2);
        type(x, "a5a5");
        Check.refused(x, "11: constant above 9", STATE, () -> x.read(1));
        Check.same("11: stays too", x.clearBuffer(), 4);
        type(x, "w2ww3");
        Check.refused(x, "11: variable above 5", STATE, () -> x.read(1));
        x.clearBuffer();
        type(x, "ax");
        Check.refused(x, "11: subject with a variable", STATE, () -> x.read(2));
        Check.same("11: other pattern may", x.read(1), 2);
        Check.same("11: undo leaves the buffer", x.undo(), 3);
        Check.same("11: empty", x.clearBuffer(), 0);
        type(x, "w2wz5c9");
        Check.same("11: at the limits", x.read(1), 17);
    }

    private static void take() {
        FactorMatch x = with("aw2", "b3", "cd");
        Check.same("12: factors", x.take(1), 8);
        Check.same("12: taken", x.count(9), 1);
        Check.same("12: again", x.take(1), 8);
        Check.same("12: still one", x.count(9), 1);
        Check.same("12: not undoable", x.count(10), 3);
        x.constant(2, 0, 1);
        Check.same("12: the other one", x.take(0), 9);
        Check.same("12: two", x.count(9), 2);
        Check.refused(x, "12: snapshot 2", BOUNDS, () -> x.take(2));
        Check.refused(x, "12: snapshot -1", BOUNDS, () -> x.take(-1));
        x.constant(2, 1, 7);
        x.restore(1);
        Check.same("12: the first one is kept", told(x), "aw2 b3 cd");
        x.restore(0);
        Check.same("12: the second one is kept", told(x), "aw2 b3 acd");
        x.constant(0, 0, 5);
        x.take(0);
        x.constant(0, 0, 0);
        Check.same("12: in its place", x.restore(0), 13);
    }

    private static void restore() {
        FactorMatch x = with("aw2", "b3", "cd");
        Check.refused(x, "13: not taken", STATE, () -> x.restore(0));
        Check.refused(x, "13: snapshot 2", BOUNDS, () -> x.restore(2));
        Check.refused(x, "13: snapshot -1", BOUNDS, () -> x.restore(-1));
        x.take(0);
        Check.refused(x, "13: the other is not taken", STATE, () -> x.restore(1));
        x.set(0, 0);
        x.set(1, 4);
        x.constant(0, 0, 9);
        type(x, "zz");
        Check.same("13: restored", x.restore(0), 8);
        Check.same("13: told", told(x), "aw2 b3 cd");
        Check.same("13: setting 0 is not in it", x.setting(0), 0);
        Check.same("13: setting 1 is not in it", x.setting(1), 4);
        Check.same("13: the buffer stays", x.clearBuffer(), 2);
        Check.same("13: undoable", x.undo(), 5);
        Check.same("13: told after undo", told(x), "a9w2 b3 cd");
        Check.same("13: it stays", x.restore(0), 8);
        Check.same("13: still taken", x.count(9), 1);
        x.constant(2, 0, 3);
        x.restore(0);
        Check.same("13: later changes are not in it", told(x), "aw2 b3 cd");
    }

    private static void undo() {
        FactorMatch x = new FactorMatch();
        Check.refused(x, "14: none", STATE, () -> x.undo());
        for (int i = 1; i <= 9; i++) {
            x.constant(0, 0, i);
        }
        Check.same("14: at most 6", x.count(10), 6);
        x.take(1);
        type(x, "ab");
        for (int i = 5; i >= 0; i--) {
            Check.same("14: left", x.undo(), i);
            Check.same("14: restored", x.times(0, 0), i + 3);
        }
        Check.refused(x, "14: the oldest were dropped", STATE, () -> x.undo());
        Check.same("14: the snapshot stays", x.count(9), 1);
        Check.same("14: the buffer stays", x.clearBuffer(), 2);
        x.set(1, 3);
        x.constant(1, 1, 1);
        Check.same("14: one left", x.undo(), 1);
        x.constant(1, 1, 2);
        Check.same("14: two again", x.count(10), 2);
        x.undo();
        Check.same("14: setting 1 before", x.setting(1), 3);
        x.undo();
        Check.same("14: setting 1 is restored", x.setting(1), 9);
    }

    private static void undoableCalls() {
        FactorMatch x = with("aw", "aw", "ab");
        x.take(0);
        x.undo();
        x.undo();
        x.undo();
        int due = 0;
        String before = told(x);
        x.multiply(0, 0);
        Check.same("undoable: multiply", x.count(10), ++due);
        x.cancel(0, 1);
        Check.same("undoable: cancel", x.count(10), ++due);
        x.restore(0);
        Check.same("undoable: restore", x.count(10), ++due);
        x.rewrite(0);
        Check.same("undoable: rewrite", x.count(10), ++due);
        x.variable(0, 0, 1);
        Check.same("undoable: variable", x.count(10), ++due);
        x.set(0, 1);
        Check.same("undoable: set", x.count(10), ++due);
        for (int i = 0; i < 6; i++) {
            x.undo();
        }
        Check.same("undoable: all undone", told(x), before);
    }

    private static void times() {
        FactorMatch x = with("ab2c3d4wx2y3z4", "d9z5", "c7");
        int[] due = {1, 2, 3, 4, 1, 2, 3, 4};
        for (int f = 0; f < 8; f++) {
            Check.same("15: pattern " + f, x.times(0, f), due[f]);
            Check.same("15: other " + f, x.times(1, f), f == 3 ? 9 : f == 7 ? 5 : 0);
            Check.same("15: subject " + f, x.times(2, f), f == 2 ? 7 : 0);
        }
        Check.refused(x, "15: product 3", BOUNDS, () -> x.times(3, 0));
        Check.refused(x, "15: product -1", BOUNDS, () -> x.times(-1, 0));
        Check.refused(x, "15: factor 8", BOUNDS, () -> x.times(0, 8));
        Check.refused(x, "15: factor -1", BOUNDS, () -> x.times(1, -1));
    }

    private static void rest() {
        FactorMatch x = with("a2b5w3", "a9", "a9b4c");
        int[] due = {7, -1, 1, 0};
        for (int c = 0; c < 4; c++) {
            Check.same("16: rest " + c, x.rest(c), due[c]);
        }
        Check.refused(x, "16: constant 4", BOUNDS, () -> x.rest(4));
        Check.refused(x, "16: constant -1", BOUNDS, () -> x.rest(-1));
    }

    private static void solutions() {
        FactorMatch x = with("b5wx2", "1", "a4b4c");
        // 4 = w + 2x: 4 0, 2 1, 0 2
        int[] due = {3, 0, 1, 1};
        for (int c = 0; c < 4; c++) {
            Check.same("17: solutions " + c, x.solutions(c), due[c]);
        }
        x.set(0, 0);
        Check.same("17: empty values do not matter", x.solutions(0), 3);
        x.set(1, 2);
        Check.same("17: at most 2", x.solutions(0), 2);
        x.set(1, 1);
        Check.same("17: at most 1", x.solutions(0), 0);
        x.set(1, 0);
        Check.same("17: at most 0", x.solutions(0), 0);
        Check.same("17: only zeros", x.solutions(3), 1);
        Check.refused(x, "17: constant 4", BOUNDS, () -> x.solutions(4));
        Check.refused(x, "17: constant -1", BOUNDS, () -> x.solutions(-1));
        Check.same("17: no variables, a rest", with("1", "1", "a").solutions(0), 0);
        Check.same("17: no variables, no rest", with("a", "1", "a").solutions(0), 1);
        Check.same("17: four variables", with("wxyz", "1", "a9").solutions(0), 220);
        Check.same("17: only the last variable", with("z3", "1", "a9").solutions(0), 1);
        Check.same("17: it does not divide", with("z2", "1", "a9").solutions(0), 0);
        // 0013 0030 0111 1002 1100
        Check.same("17: unlike times", with("w5x4y3z2", "1", "a9").solutions(0), 5);
    }

    private static void matchers() {
        FactorMatch x = with("wx2", "1", "a4bd2");
        // a: 3, b: 1, d: 2
        Check.same("18: by sets", x.matchers(0), 6);
        Check.same("18: by constants", x.matchers(1), 6);
        Check.refused(x, "18: way 2", ARGUMENT, () -> x.matchers(2));
        Check.refused(x, "18: way -1", ARGUMENT, () -> x.matchers(-1));
        x.constant(0, 2, 1);
        Check.same("18: a rest below 0", x.matchers(0), 0);
        Check.same("18: a rest below 0, by constants", x.matchers(1), 0);
        FactorMatch all = with("wxyz", "1", "a9b9c9d9");
        Check.same("18: as many as can be", all.matchers(0), 220L * 220 * 220 * 220);
        Check.same("18: as many as can be, by constants", all.matchers(1), 220L * 220 * 220 * 220);
        Check.same("18: all empty", new FactorMatch().matchers(1), 1);
    }

    private static void matchersWithoutEmptyValues() {
        FactorMatch x = with("wx", "1", "ab");
        x.set(0, 0);
        // each of a and b in one of the two values, not both in one
        Check.same("18: not empty", x.matchers(0), 2);
        Check.same("18: not empty, by constants", x.matchers(1), 2);
        x.variable(0, 2, 1);
        Check.same("18: three for two", x.matchers(0), 0);
        Check.same("18: three for two, by constants", x.matchers(1), 0);
        x.constant(2, 3, 1);
        Check.same("18: three for three", x.matchers(0), 6);
        Check.same("18: three for three, by constants", x.matchers(1), 6);
        FactorMatch none = new FactorMatch();
        none.set(0, 0);
        Check.same("18: no variables", none.matchers(0), 1);
        Check.same("18: no variables, by constants", none.matchers(1), 1);
        none.constant(2, 0, 1);
        Check.same("18: no variables, a rest", none.matchers(0), 0);
        Check.same("18: no variables, a rest, by constants", none.matchers(1), 0);
        none.variable(0, 3, 1);
        Check.same("18: one variable", none.matchers(0), 1);
        none.constant(2, 0, 0);
        Check.same("18: one variable, nothing to put", none.matchers(1), 0);
    }

    private static void value() {
        FactorMatch x = with("wy2", "1", "a3b2");
        // a: w y = 1 1, 3 0; b: 0 1, 2 0
        String[] due = {"1000 ---- 1100 ----", "1200 ---- 1000 ----", "3000 ---- 0100 ----", "3200 ---- 0000 ----"};
        for (int m = 0; m < 4; m++) {
            Check.same("19: matcher " + m, row(x, m), due[m]);
        }
        Check.refused(x, "19: matcher 4", ARGUMENT, () -> x.value(4, 0, 0));
        Check.refused(x, "19: matcher -1", ARGUMENT, () -> x.value(-1, 0, 0));
        Check.refused(x, "19: no matcher, a variable that is not there", ARGUMENT, () -> x.value(4, 1, 0));
        Check.refused(x, "19: variable 4", BOUNDS, () -> x.value(0, 4, 0));
        Check.refused(x, "19: variable -1", BOUNDS, () -> x.value(0, -1, 0));
        Check.refused(x, "19: constant 4", BOUNDS, () -> x.value(0, 0, 4));
        Check.refused(x, "19: constant -1", BOUNDS, () -> x.value(0, 0, -1));
        Check.refused(x, "19: the index comes first", BOUNDS, () -> x.value(4, 0, 4));
        x.set(0, 0);
        for (int m = 0; m < 3; m++) {
            Check.same("19: not empty, matcher " + m, row(x, m), due[m]);
        }
        Check.refused(x, "19: not empty, matcher 3", ARGUMENT, () -> x.value(3, 0, 0));
        x.set(1, 2);
        Check.same("19: at most 2", row(x, 1), due[1]);
        Check.refused(x, "19: at most 2, matcher 2", ARGUMENT, () -> x.value(2, 0, 0));
        x.undo();
        Check.same("19: after undo", row(x, 2), due[2]);
        Check.same("19: unlike times", row(with("wx2y3", "1", "d5"), 1), "0001 0002 0000 ----");
        FactorMatch two = with("wx", "1", "ab");
        two.set(0, 0);
        Check.same("19: the second of two", row(two, 1), "1000 0100 ---- ----");
        Check.refused(two, "19: no third", ARGUMENT, () -> two.value(2, 0, 0));
        FactorMatch one = with("wx", "1", "1");
        one.set(0, 0);
        Check.refused(one, "19: nothing to put", ARGUMENT, () -> one.value(0, 0, 0));
        FactorMatch all = with("wxyz", "1", "a9b9c9d9");
        Check.same("19: first of many", row(all, 0), "0000 0000 0000 9999");
        Check.same("19: second of many", row(all, 1), "0000 0000 0001 9998");
        Check.same("19: of the second constant", row(all, 220 * 220), "0000 0000 0100 9899");
        Check.same("19: the greatest number", all.value(Integer.MAX_VALUE, 0, 0), 6);
    }

    private static void least() {
        FactorMatch x = with("w2x", "y3", "1");
        // 2w + x = 3y
        Check.same("20: order", leasts(x), "0001 0310 1110 3020");
        Check.same("20: not so many", x.least(4, 0), -1);
        Check.same("20: by far not so many", x.least(Integer.MAX_VALUE, 3), -1);
        Check.refused(x, "20: place -1", ARGUMENT, () -> x.least(-1, 0));
        Check.refused(x, "20: variable 4", BOUNDS, () -> x.least(0, 4));
        Check.refused(x, "20: variable -1", BOUNDS, () -> x.least(0, -1));
        Check.refused(x, "20: the index comes first", BOUNDS, () -> x.least(-1, 4));
        Check.same("20: the same patterns", leasts(new FactorMatch()), "0001 0010 0100 1000");
        Check.same("20: none", leasts(with("wxyz", "1", "1")), "");
        Check.same("20: only the difference counts", leasts(with("aw5x2", "c5w4x3", "1")), "0001 0010 1100");
        Check.same("20: 3w = x + 2y", leasts(with("w3", "xy2", "1")), "0001 1110 1300 2030");
        FactorMatch most = with("w5x5", "y4z4", "1");
        Check.same("20: as many as can be", most.count(4), 30);
        Check.same("20: the last of them", "" + most.least(29, 0) + most.least(29, 1) + most.least(29, 2)
                + most.least(29, 3), "4050");
        Check.same("20: the last but one", most.least(28, 3), 1);
    }

    private static void sums() {
        FactorMatch x = with("wx", "yz", "1");
        // 0101 0110 1001 1010: 1111 is the first and the last one, or the other two
        Check.same("21: least", leasts(x), "0101 0110 1001 1010");
        Check.same("21: in two ways", x.sums(1, 1, 1, 1), 2);
        Check.same("21: in three ways", x.sums(2, 2, 2, 2), 3);
        Check.same("21: in seven ways", x.sums(6, 6, 6, 6), 7);
        Check.same("21: one", x.sums(3, 0, 2, 1), 1);
        Check.same("21: no solution", x.sums(1, 0, 0, 0), 0);
        Check.same("21: four zeros", x.sums(0, 0, 0, 0), 1);
        int[][] wrong = {{7, 0, 0, 0}, {0, 7, 0, 0}, {0, 0, 7, 0}, {0, 0, 0, 7},
            {-1, 0, 0, 0}, {0, -1, 0, 0}, {0, 0, -1, 0}, {0, 0, 0, -1}};
        for (int[] n : wrong) {
            Check.refused(x, "21: out of range", ARGUMENT, () -> x.sums(n[0], n[1], n[2], n[3]));
        }
        Check.same("21: none, four zeros", with("w", "1", "1").sums(0, 0, 0, 0), 1);
        Check.same("21: each alone", new FactorMatch().sums(6, 5, 4, 3), 1);
        FactorMatch y = with("w2x", "y3", "1");
        // 3330: 3 of 1110, or 0310 and 3020
        Check.same("21: also with z", y.sums(3, 3, 3, 2), 2);
        Check.same("21: with unlike places", with("w", "z", "1").sums(2, 1, 0, 2), 1);
    }

    private static void count() {
        FactorMatch x = with("a2bw2x", "ab3y5", "a4c");
        // 2w + x = 5y
        Check.same("22: leasts", leasts(x), "0001 0510 1310 2110 5020");
        int[] due = {6, 9, 5, 2, 5, 7, 1, 0, 1, 0, 3};
        for (int what = 0; what < 11; what++) {
            Check.same("22: count " + what, x.count(what), due[what]);
        }
        Check.refused(x, "22: 11", ARGUMENT, () -> x.count(11));
        Check.refused(x, "22: -1", ARGUMENT, () -> x.count(-1));
        Check.same("22: each alone is the greatest", with("w", "1", "1").count(5), 1);
        // 3z = w + 2x: the last number counts too
        Check.same("22: greatest with z", with("z3", "wx2", "1").count(5), 5);
        Check.same("22: greatest at the first place", with("wxy5", "z4", "1").count(5), 9);
        Check.same("22: no least one at all", with("wxyz", "1", "1").count(5), 0);
        Check.same("22: the same", with("aw2", "w2a", "1").count(7), 1);
        Check.same("22: other constants", with("aw2", "w2b", "1").count(7), 0);
        Check.same("22: other variables", with("aw", "aw2", "1").count(7), 0);
        Check.same("22: all empty are the same", new FactorMatch().count(7), 1);
        Check.same("22: in common", with("a5b2cw", "a3b9dw", "a9bcd").count(8), 4);
        x.take(0);
        x.take(1);
        Check.same("22: snapshots", x.count(9), 2);
        Check.same("22: rests below 0", with("abcd", "1", "1").count(6), 4);
    }

    private static void setting() {
        FactorMatch x = new FactorMatch();
        x.set(0, 0);
        x.set(1, 7);
        Check.same("23: setting 0", x.setting(0), 0);
        Check.same("23: setting 1", x.setting(1), 7);
        Check.refused(x, "23: setting 2", BOUNDS, () -> x.setting(2));
        Check.refused(x, "23: setting -1", BOUNDS, () -> x.setting(-1));
    }

    private static void ifMore() {
        FactorMatch x = with("wx", "1", "a2b");
        Check.same("24: as it is", x.ifMore(0, 0), 6);
        Check.same("24: one more", x.ifMore(0, 1), 8);
        Check.same("24: one more of another", x.ifMore(3, 1), 12);
        Check.same("24: one less", x.ifMore(1, -1), 3);
        Check.same("24: below 0", x.ifMore(1, -2), 0);
        Check.same("24: 9 less", x.ifMore(0, -9), 0);
        // 11 of a in two values of at most 9
        Check.same("24: above 9", x.ifMore(0, 9), 16);
        Check.same("24: nothing is changed", x.matchers(0), 6);
        Check.same("24: nor the solutions", x.solutions(0), 3);
        x.set(0, 0);
        Check.same("24: not empty", x.ifMore(0, -1), 2);
        Check.same("24: not empty, one more", x.ifMore(0, 1), 6);
        Check.refused(x, "24: constant 4", BOUNDS, () -> x.ifMore(4, 0));
        Check.refused(x, "24: constant -1", BOUNDS, () -> x.ifMore(-1, 0));
        Check.refused(x, "24: by 10", ARGUMENT, () -> x.ifMore(0, 10));
        Check.refused(x, "24: by -10", ARGUMENT, () -> x.ifMore(0, -10));
        Check.refused(x, "24: the index comes first", BOUNDS, () -> x.ifMore(4, 10));
        FactorMatch below = with("a2w", "1", "a");
        Check.same("24: a rest below 0", below.matchers(0), 0);
        Check.same("24: no more below 0", below.ifMore(0, 1), 1);
        FactorMatch all = with("wxyz", "1", "a9b9c9d9");
        Check.same("24: as many as can be", all.ifMore(0, 9), 670L * 220 * 220 * 220);
    }

    private static void ifRewritten() {
        FactorMatch x = with("wx", "aw5x5", "a9c");
        Check.same("25: above 9", x.ifRewritten(0, 0), 46);
        Check.same("25: of another", x.ifRewritten(0, 2), 5);
        Check.same("25: none of it", x.ifRewritten(19, 3), 0);
        Check.same("25: nothing is changed", told(x), "wx aw5x5 a9c");
        Check.refused(x, "25: matcher 20", ARGUMENT, () -> x.ifRewritten(20, 0));
        Check.refused(x, "25: matcher -1", ARGUMENT, () -> x.ifRewritten(-1, 0));
        Check.refused(x, "25: constant 4", BOUNDS, () -> x.ifRewritten(0, 4));
        Check.refused(x, "25: constant -1", BOUNDS, () -> x.ifRewritten(0, -1));
        Check.refused(x, "25: the index comes first", BOUNDS, () -> x.ifRewritten(20, 4));
        FactorMatch y = with("w", "wz", "a");
        Check.same("25: a variable without a value", y.ifRewritten(0, 0), -1);
        Check.refused(y, "25: no matcher comes first", ARGUMENT, () -> y.ifRewritten(1, 0));
        FactorMatch z = with("wx2", "bw3", "a4b");
        // a: 0 2, 2 1, 4 0; b: 1 0
        Check.same("25: matcher 1, a", z.ifRewritten(1, 0), 6);
        Check.same("25: matcher 1, b", z.ifRewritten(1, 1), 4);
    }

    private static void shortest() {
        FactorMatch x = with("wx", "1", "a3b2");
        // 12 matchers: a of w in 0 to 3, b of w in 0 to 2
        Check.same("26: w", x.shortest(0), 0);
        Check.same("26: x", x.shortest(1), 11);
        Check.same("26: y is not there", x.shortest(2), -1);
        x.set(0, 0);
        // without the first and the last one
        Check.same("26: x, not empty", x.shortest(1), 7);
        Check.same("26: w, not empty", x.shortest(0), 0);
        FactorMatch many = with("wx", "1", "a9b9");
        // of 100 the first 20: a of w in 0 and 1, b of w in 0 to 9
        Check.same("26: only the first 20", many.shortest(1), 19);
        // x is b at 13, c at 19, and empty at 20
        Check.same("26: the lowest of several, not the 21st", with("wx", "1", "b2c6").shortest(1), 13);
        Check.same("26: d counts too", with("wx", "1", "cd").shortest(1), 3);
        FactorMatch last = with("xw", "1", "a4b3");
        Check.same("26: just 20", last.matchers(0), 20);
        Check.same("26: the last of 20", last.shortest(1), 19);
        Check.same("26: no matcher", with("aw", "1", "1").shortest(0), -1);
        Check.refused(x, "26: variable 4", BOUNDS, () -> x.shortest(4));
        Check.refused(x, "26: variable -1", BOUNDS, () -> x.shortest(-1));
    }

    private static void openShare() {
        Check.same("27: empty", new FactorMatch().openShare(), 0.0);
        Check.same("27: all", with("w", "1", "a2").openShare(), 1.0);
        Check.same("27: a third", with("a2", "1", "a2b").openShare(), 1.0 / 3.0);
        Check.same("27: also without variables", with("1", "1", "a2").openShare(), 1.0);
        Check.same("27: d counts too", with("a", "1", "ad3").openShare(), 0.75);
        Check.same("27: nothing open", with("a", "1", "a").openShare(), 0.0);
        Check.same("27: a rest below 0", with("ab", "1", "a9").openShare(), 0.0);
        Check.same("27: empty and below 0", with("ab", "1", "1").openShare(), 0.0);
        Check.same("27: the smallest", with("a8b9c9d9", "1", "a9b9c9d9").openShare(), 1.0 / 36.0);
    }

    /** The list written down by hand, with the library's own bits of a double. */
    private static void digest() {
        FactorMatch x = with("bwx2", "w3", "a2b2c");
        x.set(1, 8);
        x.take(1);
        type(x, "a?");
        // a: w x = 0 1, 2 0; b: 1 0; c: 1 0
        long[] due = {
            4, 3, 5, 2, 3, 2, 0, 0, 0, 1, 4,
            1, 8,
            0, 1, 0, 0, 1, 2, 0, 0,  0, 0, 0, 0, 3, 0, 0, 0,  2, 2, 1, 0, 0, 0, 0, 0,
            2, 2, 2,  1, 1, 4,  1, 1, 4,  0, 1, 2,
            2, 2,
            0, 1, 1, 0,  1, 0, 0, 0,  -1, -1, -1, -1,  -1, -1, -1, -1,  0, 3, 3, 0,
            2, 1, 1, 0,  0, 0, 0, 0,  -1, -1, -1, -1,  -1, -1, -1, -1,  6, 3, 3, 0,
            0, 0, 0, 1,  0, 0, 1, 0,  1, 1, 0, 0,  -1, -1, -1, -1,
            1,
            0, 1, -1, -1,
            Double.doubleToLongBits(0.8),
            2, 'a', '?'};
        Check.same("28: digest", x.digest(), hash(due));
        Check.same("28: it changes nothing", x.digest(), hash(due));
        Check.same("28: at most 8", x.solutions(0), 2);
        FactorMatch below = with("a2", "1", "a");
        below.set(0, 0);
        long[] none = {
            2, 0, 1, 0, 4, 1, 1, 0, 0, 0, 4,
            0, 9,
            2, 0, 0, 0, 0, 0, 0, 0,  0, 0, 0, 0, 0, 0, 0, 0,  1, 0, 0, 0, 0, 0, 0, 0,
            -1, 0, 1,  0, 1, 0,  0, 1, 0,  0, 1, 0,
            0, 0,
            0, 0, 0, 1,  0, 0, 1, 0,  0, 1, 0, 0,  1, 0, 0, 0,
            1,
            -1, -1, -1, -1,
            0,
            0};
        Check.same("28: digest without matchers", below.digest(), hash(none));
        long[] eight = {
            6, 2, 8, 2, 3, 1, 0, 0, 0, 0, 3,
            1, 9,
            0, 4, 0, 0, 1, 1, 0, 0,  0, 0, 0, 1, 1, 0, 0, 0,  3, 4, 0, 1, 0, 0, 0, 0,
            3, 4, 10,  0, 1, 16,  0, 1, 16,  1, 2, 12,
            8, 8,
            0, 0, 0, 0,  3, 0, 0, 1,  -1, -1, -1, -1,  -1, -1, -1, -1,  0, 0, 0, 1,
            0, 0, 0, 1,  3, 0, 0, 0,  -1, -1, -1, -1,  -1, -1, -1, -1,  0, 0, 0, 2,
            1, 0, 0, 0,  2, 0, 0, 1,  -1, -1, -1, -1,  -1, -1, -1, -1,  1, 0, 0, 1,
            0, 0, 0, 1,  0, 0, 1, 0,  1, 0, 0, 0,  -1, -1, -1, -1,
            0,
            0, 7, -1, -1,
            Double.doubleToLongBits(0.5),
            0};
        Check.same("28: digest of the first three of eight", with("b4wx", "dw", "a3b4d").digest(), hash(eight));
        sharesInDigest();
    }

    /** With an empty buffer the bits of the share stand before the last value, so they can be told apart. */
    private static void sharesInDigest() {
        FactorMatchModel m = new FactorMatchModel();
        for (int a = 0; a <= 9; a++) {
            for (int b = 0; b <= 9; b++) {
                FactorMatch x = new FactorMatch();
                x.constant(2, 0, a);
                x.constant(2, 1, b);
                x.constant(0, 1, b);
                m.products[2][0] = a;
                m.products[2][1] = b;
                m.products[0][1] = b;
                m.saved.clear();
                m.save();
                m.save();
                m.save();
                Check.same("28: digest with a share of " + x.openShare(), x.digest(), m.digest());
            }
        }
        FactorMatch least = with("a8b9c9d9", "1", "a9b9c9d9");
        m.products = new int[][] {{8, 9, 9, 9, 0, 0, 0, 0}, new int[8], {9, 9, 9, 9, 0, 0, 0, 0}};
        Check.same("28: digest with the smallest share", least.digest(), m.digest());
    }

    private static long hash(long[] values) {
        long hash = 2593;
        for (long v : values) {
            hash = 31 * hash + v;
        }
        return hash;
    }

    private static void looksChangeNothing() {
        FactorMatch x = with("awx2", "bwx", "a9b8c7");
        long before = x.digest();
        x.ifMore(0, 5);
        x.ifRewritten(7, 1);
        x.shortest(1);
        x.sums(6, 6, 6, 6);
        x.value(9, 0, 0);
        x.matchers(0);
        x.openShare();
        x.firstError();
        Check.same("looks change nothing", x.digest(), before);
        Check.same("looks save nothing", x.count(10), 3);
        Check.same("the products stay", told(x), "awx2 bwx a9b8c7");
    }
}
