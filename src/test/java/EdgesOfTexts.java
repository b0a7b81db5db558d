/** Promises 8 to 14: for each sentence that names a boundary case a test of its own. */
final class EdgesOfTexts {
    private static final String FACTORS = "abcdwxyz";
    private static final String TIMES = "23456789";
    private static final String MOST = "a".repeat(9) + "b".repeat(9) + "c".repeat(9) + "d".repeat(9)
            + "w".repeat(5) + "x".repeat(5) + "y".repeat(5) + "z".repeat(5);

    public static void main(String[] args) {
        appendCodes();
        appendToTheFullBuffer();
        clearBuffer();
        signsByWhatIsBefore();
        errorsByPlace();
        errorStaysTheFirst();
        readTimes();
        readIncomplete();
        readTooMany();
        readWhatComesFirst();
        readEmptyAndFull();
        readReplaces();
        takeSums();
        takeInPlace();
        restoreRefused();
        restoreKeepsTheRest();
        undoEmptyAndFull();
        undoGoesRound();
        undoLeaves();
        manyCalls();
        Check.end();
    }

    // ---- 8, 9

    /** The character code, 33 to 126. */
    private static void appendCodes() {
        FactorMatch x = new FactorMatch();
        int length = 0;
        for (int code = 33; code <= 126; code++) {
            if (length == 60) {
                x.clearBuffer();
                length = 0;
            }
            length++;
            Edge.same("8: code " + code, x.append(code), length);
        }
        int[] wrong = {32, 127, 0, -1, 31, 128, 33 + 256, 97 - 256, 97 + 65536, 97 + (1 << 30), Integer.MIN_VALUE,
            Integer.MAX_VALUE};
        for (int code : wrong) {
            Edge.refused("8: code " + code, FactorMatch::new, y -> y.append(code), Edge.ARGUMENT);
            Edge.refused("8: code " + code + " comes before a full buffer", Stock.FULL, y -> y.append(code),
                    Edge.ARGUMENT);
        }
    }

    /** The buffer has at most 60 characters. */
    private static void appendToTheFullBuffer() {
        FactorMatch x = new FactorMatch();
        for (int i = 1; i <= 60; i++) {
            Edge.same("8: length " + i, x.append('~'), i);
        }
        Edge.refused("8: the 61st", Stock.FULL, y -> y.append('a'), Edge.STATE);
        Edge.refused("8: the 61st, the lowest code", Stock.FULL, y -> y.append(33), Edge.STATE);
        Edge.refused("8: the 61st, the highest code", Stock.FULL, y -> y.append(126), Edge.STATE);
        Edge.same("9: the 61st did not count", x.clearBuffer(), 60);
        Edge.same("8: there is room again", x.append('a'), 1);
        Edge.same("8: what was there is gone", x.firstError(), 1);
    }

    private static void clearBuffer() {
        FactorMatch x = new FactorMatch();
        Edge.same("9: an empty one", x.clearBuffer(), 0);
        x.append('a');
        Edge.same("9: one character", x.clearBuffer(), 1);
        Edge.same("9: an empty one again", x.clearBuffer(), 0);
        Edge.type(x, "a".repeat(59));
        Edge.same("9: one less than full", x.clearBuffer(), 59);
        Edge.type(x, "a".repeat(60));
        Edge.same("9: a full one", x.clearBuffer(), 60);
        Edge.same("9: all is as new", Edge.whole(x), Edge.whole(new FactorMatch()));
    }

    // ---- 10

    /** Each character there is, behind each kind of what can be before it. */
    private static void signsByWhatIsBefore() {
        for (char sign = 33; sign <= 126; sign++) {
            boolean isFactor = FACTORS.indexOf(sign) >= 0;
            boolean isTimes = TIMES.indexOf(sign) >= 0;
            sign("", sign, isFactor || sign == '1');
            sign("1", sign, false);
            for (char factor : FACTORS.toCharArray()) {
                sign("" + factor, sign, isFactor || isTimes);
                sign("ab" + factor, sign, isFactor || isTimes);
                for (char times : TIMES.toCharArray()) {
                    sign("" + factor + times, sign, isFactor);
                }
            }
        }
    }

    private static void sign(String before, char sign, boolean fits) {
        FactorMatch x = Edge.typed(before + sign);
        int due = before.length() + (fits ? 1 : 0);
        Edge.same("10: '" + sign + "' behind '" + before + "'", x.firstError(), due);
        if (fits) {
            return;
        }
        Edge.refused("11: '" + sign + "' behind '" + before + "'", () -> Edge.typed(before + sign), y -> y.read(0),
                Edge.ARGUMENT);
    }

    private static void errorsByPlace() {
        Edge.answers("10: an empty buffer", FactorMatch::new, x -> x.firstError(), 0);
        Edge.answers("10: a full one without errors", () -> Edge.typed("a".repeat(60)), x -> x.firstError(), 60);
        Edge.answers("10: a full one of pairs", () -> Edge.typed("z9".repeat(30)), x -> x.firstError(), 60);
        for (int place = 0; place < 60; place++) {
            String text = "d".repeat(place) + "!" + "d".repeat(59 - place);
            Edge.answers("10: an error at " + place, () -> Edge.typed(text), x -> x.firstError(), place);
            int length = place;
            Edge.answers("10: none in " + place, () -> Edge.typed("w".repeat(length)), x -> x.firstError(), length);
        }
    }

    /** A product of any length: how often a factor can be there is no matter of syntax, nor is what is behind. */
    private static void errorStaysTheFirst() {
        Edge.answers("10: a constant 18 times", () -> Edge.typed("a9a9"), x -> x.firstError(), 4);
        Edge.answers("10: a variable 9 times", () -> Edge.typed("w9"), x -> x.firstError(), 2);
        FactorMatch x = Edge.typed("ab1");
        for (char sign : "a2wz9!1".toCharArray()) {
            Edge.same("10: before " + sign, x.firstError(), 2);
            x.append(sign);
        }
        Edge.same("10: still", x.firstError(), 2);
        Edge.answers("10: '1' alone", () -> Edge.typed("1"), y -> y.firstError(), 1);
        Edge.answers("10: '1' and more", () -> Edge.typed("1aaaa"), y -> y.firstError(), 1);
        Edge.answers("10: it changes nothing", () -> Edge.typed("a!"), y -> y.firstError() * 10 + y.clearBuffer(), 12);
    }

    // ---- 11

    /** A digit 2 to 9 tells how often the factor stands there; no digit: once. */
    private static void readTimes() {
        for (int f = 0; f < 8; f++) {
            int most = f < 4 ? 9 : 5;
            for (int n = 1; n <= 9; n++) {
                String text = FACTORS.charAt(f) + (n == 1 ? "" : String.valueOf(n));
                for (int p = 0; p < 3; p++) {
                    int product = p;
                    if (n > most || f > 3 && p == 2) {
                        Edge.refused("11: " + text + " for " + p, () -> Edge.typed(text), x -> x.read(product),
                                Edge.STATE);
                        continue;
                    }
                    FactorMatch x = Edge.typed(text);
                    Edge.same("11: " + text + " for " + p, x.read(p), n);
                    Edge.same("11: " + text + " is there", Edge.tell(x, p), text);
                    Edge.same("11: " + text + " is all", x.count(0) + x.count(1) + x.count(2), n);
                }
            }
        }
        FactorMatch x = Edge.typed("a2ba3b2a");
        Edge.same("11: what stands there again is added", x.read(1), 9);
        Edge.same("11: told", Edge.tell(x, 1), "a6b3");
    }

    private static void readIncomplete() {
        for (String text : new String[] {"", "!", "a!", "a1", "11", "1a", "a22", "0", "a0", "2a", "A", "ab}"}) {
            for (int p = 0; p < 3; p++) {
                int product = p;
                Edge.refused("11: '" + text + "' for " + p, () -> Edge.typed(text), x -> x.read(product),
                        Edge.ARGUMENT);
            }
        }
        FactorMatch x = Edge.typed("a9a9");
        Check.answer(() -> x.read(0));
        Edge.same("11: a refused text stays", x.clearBuffer(), 4);
        FactorMatch y = Edge.typed("ab!");
        Check.answer(() -> y.read(0));
        Edge.same("11: a wrong text stays", y.append('a'), 4);
        FactorMatch z = Edge.typed("ab");
        z.read(0);
        Edge.same("11: a text that was read is cleared", z.clearBuffer(), 0);
        Edge.refused("11: it cannot be read again", () -> {
            FactorMatch again = Edge.typed("ab");
            again.read(0);
            return again;
        }, again -> again.read(0), Edge.ARGUMENT);
    }

    private static void readTooMany() {
        for (int p = 0; p < 3; p++) {
            int product = p;
            for (char c : "abcd".toCharArray()) {
                Edge.answers("11: 9 of " + c, () -> Edge.typed(c + "4" + c + "5"), x -> x.read(product), 9);
                Edge.refused("11: 10 of " + c, () -> Edge.typed(c + "9" + c), x -> x.read(product), Edge.STATE);
                Edge.refused("11: 10 of " + c + ", apart", () -> Edge.typed(c + "a2b2c2d2".repeat(4) + c),
                        x -> x.read(product), Edge.STATE);
            }
            for (char v : "wxyz".toCharArray()) {
                if (p < 2) {
                    Edge.answers("11: 5 of " + v, () -> Edge.typed(v + "3" + v + "2"), x -> x.read(product), 5);
                }
                Edge.refused("11: 6 of " + v, () -> Edge.typed(v + "3a" + v + "3"), x -> x.read(product), Edge.STATE);
            }
        }
        Edge.refused("11: one too often among many", () -> Edge.typed("a9b9c9d9w5x5y5z6"), x -> x.read(0), Edge.STATE);
        Edge.refused("11: the subject with a variable", () -> Edge.typed("a9b9c9d9z"), x -> x.read(2), Edge.STATE);
        Edge.answers("11: the subject without", () -> Edge.typed("a9b9c9d9"), x -> x.read(2), 36);
    }

    /** No such product, then no complete text, then too many. */
    private static void readWhatComesFirst() {
        for (int wrong : new int[] {-1, 3, Integer.MIN_VALUE, Integer.MAX_VALUE, 1 << 29, 256}) {
            for (String text : new String[] {"", "a", "a!", "a9a9", "w9", "a9a9!"}) {
                Edge.refused("11: product " + wrong + " with '" + text + "'", () -> Edge.typed(text),
                        x -> x.read(wrong), Edge.BOUNDS);
            }
        }
        for (int p = 0; p < 3; p++) {
            int product = p;
            Edge.refused("11: no product, and too many", () -> Edge.typed("a9a9!"), x -> x.read(product), Edge.ARGUMENT);
            Edge.refused("11: no product, with a variable", () -> Edge.typed("w6w1"), x -> x.read(product),
                    Edge.ARGUMENT);
        }
    }

    /** Of 60 characters each stands for a factor, so they are always too many; 56 are not. */
    private static void readEmptyAndFull() {
        for (int p = 0; p < 3; p++) {
            int product = p;
            Edge.answers("11: the empty product", () -> Edge.typed("1"), x -> x.read(product), 0);
            Edge.refused("11: a full buffer", () -> Edge.typed("a".repeat(60)), x -> x.read(product), Edge.STATE);
            Edge.refused("11: a full buffer with an error at its end", () -> Edge.typed("a".repeat(59) + "!"),
                    x -> x.read(product), Edge.ARGUMENT);
        }
        Edge.answers("11: as many as can be, one by one", () -> Edge.typed(MOST), x -> x.read(0), 56);
        Edge.answers("11: as many as can be, for the other", () -> Edge.typed(MOST), x -> x.read(1), 56);
        Edge.refused("11: one more", () -> Edge.typed(MOST + "z"), x -> x.read(0), Edge.STATE);
        Edge.answers("11: as many as can be, by digits", () -> Edge.typed("z5y5x5w5d9c9b9a9"), x -> x.read(0), 56);
        FactorMatch x = Edge.typed(MOST);
        x.read(1);
        Edge.same("11: told", Edge.tell(x, 1), "a9b9c9d9w5x5y5z5");
    }

    private static void readReplaces() {
        FactorMatch x = Edge.with("a9b9c9d9w5x5y5z5", "a", "a9b9c9d9");
        Edge.type(x, "b");
        Edge.same("11: in place of a full one", x.read(0), 1);
        Edge.same("11: told", Edge.told(x), "b a a9b9c9d9 19");
        Edge.type(x, "1");
        Edge.same("11: the empty one in its place", x.read(2), 0);
        Edge.same("11: told again", Edge.told(x), "b a 1 19");
        Edge.same("11: undo", x.undo(), 5);
        Edge.same("11: told after undo", Edge.told(x), "b a a9b9c9d9 19");
        Edge.same("11: the buffer does not come back", x.clearBuffer(), 0);
    }

    // ---- 12, 13

    private static void takeSums() {
        for (int s = 0; s < 2; s++) {
            FactorMatch x = new FactorMatch();
            Edge.same("12: empty products", x.take(s), 0);
            Edge.same("12: one is taken", x.count(9), 1);
            FactorMatch full = Edge.with("a9b9c9d9w5x5y5z5", "a9b9c9d9w5x5y5z5", "a9b9c9d9");
            Edge.same("12: full products", full.take(s), 148);
            Edge.same("12: the other one too", full.take(1 - s), 148);
            Edge.same("12: two are taken", full.count(9), 2);
            Edge.same("12: one again", full.take(s), 148);
            Edge.same("12: still two", full.count(9), 2);
            full.cancel(0, 0);
            full.cancel(1, 1);
            full.cancel(2, 2);
            Edge.same("13: full products", full.restore(s), 148);
            Edge.same("13: told", Edge.told(full), "a9b9c9d9w5x5y5z5 a9b9c9d9w5x5y5z5 a9b9c9d9 19");
        }
    }

    /** Taken in place of the one with its number, and of no other. */
    private static void takeInPlace() {
        for (int s = 0; s < 2; s++) {
            FactorMatch x = Edge.with("a", "", "");
            x.take(s);
            x.constant(0, 0, 2);
            x.take(1 - s);
            x.constant(0, 0, 3);
            x.take(s);
            x.constant(0, 0, 4);
            Edge.same("12: the later one", x.restore(s), 3);
            Edge.same("12: the other one is as it was", x.restore(1 - s), 2);
            x.undo();
            x.undo();
            Edge.same("13: the snapshots stay through undo", x.restore(s), 3);
            x.variable(1, 2, 5);
            Edge.same("12: a snapshot is apart from the products", x.restore(s), 3);
            Edge.same("12: told", Edge.told(x), "a3 1 1 19");
        }
    }

    private static void restoreRefused() {
        for (int s = 0; s < 2; s++) {
            int one = s;
            Edge.Recipe oneTaken = () -> {
                FactorMatch x = Edge.with("a", "b", "c");
                x.take(one);
                return x;
            };
            Edge.answers("13: the taken one", oneTaken, x -> x.restore(one), 3);
            Edge.refused("13: the one that was not taken", oneTaken, x -> x.restore(1 - one), Edge.STATE);
            Edge.refused("13: none was taken", () -> Edge.with("a", "", ""), x -> x.restore(one), Edge.STATE);
        }
        for (int wrong : new int[] {-1, 2, Integer.MIN_VALUE, Integer.MAX_VALUE, 256, 65536}) {
            Edge.refused("13: snapshot " + wrong + ", none was taken", FactorMatch::new, x -> x.restore(wrong),
                    Edge.BOUNDS);
            Edge.refused("12: snapshot " + wrong, Stock.BUSY, x -> x.take(wrong), Edge.BOUNDS);
        }
    }

    /** Each keeps the three products: neither settings nor the buffer nor saved states. */
    private static void restoreKeepsTheRest() {
        FactorMatch x = Edge.with("aw", "bx", "c");
        x.take(0);
        x.set(0, 0);
        x.set(1, 0);
        Edge.type(x, "ab");
        x.multiply(0, 1);
        Edge.same("13: restored", x.restore(0), 5);
        Edge.same("13: it stays", x.count(9), 1);
        Edge.same("13: told, and the settings", Edge.told(x), "aw bx c 00");
        Edge.same("13: saved states", x.count(10), 6);
        Edge.same("13: undone", x.undo(), 5);
        Edge.same("13: told after undo", Edge.told(x), "abwx bx c 00");
        Edge.same("13: the buffer", x.clearBuffer(), 2);
    }

    // ---- 14

    /** At most 6 states are saved; the oldest one is dropped first. */
    private static void undoEmptyAndFull() {
        for (int changes = 0; changes <= 14; changes++) {
            FactorMatch x = new FactorMatch();
            for (int i = 1; i <= changes; i++) {
                x.constant(i % 3, i % 4, i % 9 + 1);
                Edge.same("14: saved after " + i, x.count(10), Math.min(6, i));
            }
            for (int left = changes; left > Math.max(0, changes - 6); left--) {
                FactorMatch before = new FactorMatch();
                for (int i = 1; i < left; i++) {
                    before.constant(i % 3, i % 4, i % 9 + 1);
                }
                Edge.same("14: left of " + changes, x.undo(), left - 1 - Math.max(0, changes - 6));
                Edge.same("14: state " + left + " of " + changes, Edge.told(x), Edge.told(before));
            }
            String last = Edge.told(x);
            Edge.same("14: none is left of " + changes, Check.answer(() -> x.undo()), Edge.STATE);
            Edge.same("14: nothing changed by it", Edge.told(x), last);
            Edge.same("14: none is saved", x.count(10), 0);
        }
    }

    /** Undo between changes, so that the place of the oldest saved state goes round. */
    private static void undoGoesRound() {
        for (int back = 1; back <= 6; back++) {
            FactorMatch x = new FactorMatch();
            java.util.ArrayDeque<String> due = new java.util.ArrayDeque<>();
            for (int i = 0; i < 200; i++) {
                due.addLast(Edge.told(x));
                if (due.size() > 6) {
                    due.removeFirst();
                }
                x.constant(i % 3, i / 3 % 4, i % 10);
                for (int k = 0; i % 7 == 6 && k < back && !due.isEmpty(); k++) {
                    x.undo();
                    Edge.same("14: round, back " + back + ", at " + i, Edge.told(x), due.removeLast());
                    Edge.same("14: round, saved", x.count(10), due.size());
                }
            }
        }
    }

    /** All but the buffer, the snapshots and the saved states is restored: the products and the settings. */
    private static void undoLeaves() {
        FactorMatch x = Edge.with("aw", "bx", "c");
        x.set(0, 0);
        x.set(1, 5);
        x.take(0);
        Edge.type(x, "zz");
        x.constant(1, 3, 7);
        x.take(1);
        x.append('y');
        Edge.same("14: undone", x.undo(), 5);
        Edge.same("14: the products", Edge.told(x), "aw bx c 05");
        Edge.same("14: the snapshots", x.count(9), 2);
        Edge.same("14: setting 1 next", x.undo(), 4);
        Edge.same("14: setting 1", Edge.told(x), "aw bx c 09");
        Edge.same("14: setting 0 next", x.undo(), 3);
        Edge.same("14: setting 0", Edge.told(x), "aw bx c 19");
        Edge.same("14: the buffer", x.clearBuffer(), 3);
        Edge.same("14: the later snapshot is as taken", x.restore(1), 12);
        x.undo();
        Edge.same("14: what was worked out is forgotten", x.matchers(1), 0);
        x.constant(2, 0, 1);
        Edge.same("14: and again", x.matchers(1), 1);
        x.undo();
        Edge.same("14: and by undo", x.matchers(1) + x.matchers(0) + x.solutions(0), 0);
        x.variable(1, 0, 2);
        Edge.same("14: least ones", x.count(4), 2);
        x.undo();
        Edge.same("14: least ones after undo", x.count(4), 3);
        Edge.same("14: the first of them", Edge.leasts(x), "0001 0010 1100");
    }

    /** An object is used for at most 512 calls. */
    private static void manyCalls() {
        FactorMatch x = new FactorMatch();
        for (int i = 0; i < 510; i++) {
            x.constant(2, 0, i % 10);
        }
        Edge.same("14: saved after 510 calls", x.count(10), 6);
        Edge.same("14: undone after 511 calls", x.undo(), 5);
        FactorMatch y = new FactorMatch();
        for (int i = 0; i < 510; i++) {
            y.append('a' + i % 4);
            if (i % 60 == 59) {
                y.clearBuffer();
            }
        }
        Edge.same("8: after many calls", y.clearBuffer(), 30);
    }
}
