import java.util.ArrayList;
import java.util.LinkedHashSet;
import java.util.List;
import java.util.Set;

/**
 * What holds of every call, in every stock state: which numbers it takes, which exception comes first, that a call
 * that throws changes nothing, which calls save a state, and which ones change nothing at all.
 */
final class EdgesOfCalls {
    /** The highest number of a matcher, which each state has its own of. */
    private static final int LAST_MATCHER = -2;

    private interface Args {
        Object on(FactorMatch x, int[] n);
    }

    /** An argument: the numbers that it can be, and what is thrown for all others. */
    private record Arg(int low, int high, String wrong) {
        boolean takes(int n) {
            return n >= low && n <= high;
        }

        /** Both ends, just beyond them, far beyond, and numbers that wrap around to one inside. */
        List<Integer> tried(boolean alone) {
            Set<Integer> all = new LinkedHashSet<>(List.of(low, high, low - 1, high + 1, Integer.MIN_VALUE,
                    Integer.MAX_VALUE));
            if (alone) {
                all.addAll(List.of(low + (1 << 8), low + (1 << 16), low + (1 << 28), low + (1 << 29), low + (1 << 30),
                        low - (1 << 8), low - (1 << 16), low - (1 << 29), low - (1 << 30)));
            }
            return new ArrayList<>(all);
        }
    }

    public static void main(String[] args) {
        calls();
        noSuchSetting();
        for (Stock stock : Stock.values()) {
            undoableCalls(stock);
            callsThatSaveNothing(stock);
            looks(stock);
        }
        savedThoughNothingChanges();
        Check.end();
    }

    private static Arg index(int end) {
        return new Arg(0, end - 1, Edge.BOUNDS);
    }

    private static Arg number(int low, int high) {
        return new Arg(low, high, Edge.ARGUMENT);
    }

    private static void calls() {
        Arg matcher = number(0, LAST_MATCHER);
        inAll("2: constant", (x, n) -> x.constant(n[0], n[1], n[2]), index(3), index(4), number(0, 9));
        inAll("3: variable", (x, n) -> x.variable(n[0], n[1], n[2]), index(2), index(4), number(0, 5));
        inAll("4: multiply", (x, n) -> x.multiply(n[0], n[1]), index(3), index(3));
        inAll("5: rewrite", (x, n) -> x.rewrite(n[0]), matcher);
        inAll("6: cancel", (x, n) -> x.cancel(n[0], n[1]), index(3), index(3));
        inAll("7: set 0", (x, n) -> x.set(0, n[0]), number(0, 1));
        inAll("7: set 1", (x, n) -> x.set(1, n[0]), number(0, 9));
        inAll("8: append", (x, n) -> x.append(n[0]), number(33, 126));
        inAll("11: read", (x, n) -> x.read(n[0]), index(3));
        inAll("12: take", (x, n) -> x.take(n[0]), index(2));
        inAll("13: restore", (x, n) -> x.restore(n[0]), index(2));
        inAll("15: times", (x, n) -> x.times(n[0], n[1]), index(3), index(8));
        inAll("16: rest", (x, n) -> x.rest(n[0]), index(4));
        inAll("17: solutions", (x, n) -> x.solutions(n[0]), index(4));
        inAll("18: matchers", (x, n) -> x.matchers(n[0]), number(0, 1));
        inAll("19: value", (x, n) -> x.value(n[0], n[1], n[2]), matcher, index(4), index(4));
        inAll("20: least", (x, n) -> x.least(n[0], n[1]), number(0, Integer.MAX_VALUE), index(4));
        inAll("21: sums", (x, n) -> x.sums(n[0], n[1], n[2], n[3]), number(0, 6), number(0, 6), number(0, 6),
                number(0, 6));
        inAll("22: count", (x, n) -> x.count(n[0]), number(0, 10));
        inAll("23: setting", (x, n) -> x.setting(n[0]), index(2));
        inAll("24: ifMore", (x, n) -> x.ifMore(n[0], n[1]), index(4), number(-9, 9));
        inAll("25: ifRewritten", (x, n) -> x.ifRewritten(n[0], n[1]), matcher, index(4));
        inAll("26: shortest", (x, n) -> x.shortest(n[0]), index(4));
    }

    /** The setting is looked at before the value, and which values there are depends on it. */
    private static void noSuchSetting() {
        for (Stock stock : Stock.values()) {
            for (int setting : new int[] {-1, 2, Integer.MIN_VALUE, Integer.MAX_VALUE, 256, 65536, 1 << 30}) {
                for (int value : new int[] {-1, 0, 1, 2, 9, 10, Integer.MIN_VALUE, Integer.MAX_VALUE}) {
                    Edge.refused("7: set(" + setting + ", " + value + ") of " + stock, stock,
                            x -> x.set(setting, value), Edge.BOUNDS);
                }
            }
        }
    }

    // ---- which numbers a call takes, and what is thrown first

    private static void inAll(String name, Args call, Arg... args) {
        for (Stock stock : Stock.values()) {
            Arg[] here = args.clone();
            for (int i = 0; i < here.length; i++) {
                if (here[i].high == LAST_MATCHER) {
                    long last = stock.make().matchers(0) - 1;
                    here[i] = number(0, (int) Math.min(last, Integer.MAX_VALUE));
                }
            }
            List<Object> untouched = Edge.whole(stock.make());
            combine(name, stock, call, here, new int[here.length], 0, untouched);
        }
    }

    private static void combine(String name, Stock stock, Args call, Arg[] args, int[] n, int from,
            List<Object> untouched) {
        if (from == args.length) {
            one(name, stock, call, args, n.clone(), untouched);
            return;
        }
        for (int i : args[from].tried(args.length < 3)) {
            n[from] = i;
            combine(name, stock, call, args, n, from + 1, untouched);
        }
    }

    private static void one(String name, Stock stock, Args call, Arg[] args, int[] n, List<Object> untouched) {
        // of the two that an argument can be wrong by, the index is named first in every throws clause
        String due = null;
        for (int i = 0; i < args.length; i++) {
            boolean first = due == null || args[i].wrong.equals(Edge.BOUNDS);
            due = !args[i].takes(n[i]) && first ? args[i].wrong : due;
        }
        String what = name + java.util.Arrays.toString(n) + " of " + stock;
        FactorMatch x = stock.make();
        Object got = Check.answer(() -> call.on(x, n));
        if (due != null) {
            Check.same(what, got, due);
            Check.same(what + ", the whole afterwards", Edge.whole(x), untouched);
            return;
        }
        boolean mayBe = name.equals("11: read") || !got.equals(Edge.ARGUMENT);
        Check.same(what + " takes it: " + got, mayBe && !got.equals(Edge.BOUNDS), true);
        if (got instanceof String) {
            Check.same(what + " refused for the state, the whole afterwards", Edge.whole(x), untouched);
        }
    }

    // ---- which calls save a state

    /** Each undoable call that does not throw saves the state from before it. */
    private static void undoableCalls(Stock stock) {
        for (int p = 0; p < 3; p++) {
            int product = p;
            saves("2: constant", stock, x -> x.constant(product, 1, 3));
            for (int o = 0; o < 3; o++) {
                int other = o;
                saves("4: multiply", stock, x -> x.multiply(product, other));
                saves("6: cancel", stock, x -> x.cancel(product, other));
            }
            saves("11: read", stock, x -> x.read(product));
        }
        saves("3: variable", stock, x -> x.variable(0, 3, 2));
        saves("3: variable of the other", stock, x -> x.variable(1, 3, 2));
        saves("5: rewrite", stock, x -> x.rewrite(0));
        saves("7: set 0", stock, x -> x.set(0, 0));
        saves("7: set 1", stock, x -> x.set(1, 3));
        saves("13: restore 0", stock, x -> x.restore(0));
        saves("13: restore 1", stock, x -> x.restore(1));
    }

    private static void saves(String name, Edge.Recipe recipe, Edge.Call call) {
        String what = name + " of " + recipe;
        FactorMatch x = recipe.make();
        FactorMatch before = recipe.make();
        if (Check.answer(() -> call.on(x)) instanceof String) {
            Check.same(what + " throws, the whole afterwards", Edge.whole(x), Edge.whole(before));
            return;
        }
        int saved = Math.min(6, before.count(10) + 1);
        Check.same(what + ", saved", x.count(10), saved);
        Check.same(what + ", left after undo", x.undo(), saved - 1);
        Check.same(what + ", the state after undo", Edge.told(x), Edge.told(before));
        List<String> due = Edge.history(before);
        // a seventh state makes the oldest one drop
        Check.same(what + ", the earlier states", Edge.history(x), due.subList(0, Math.min(5, due.size())));
        Check.same(what + ", the snapshots", Edge.snapshots(x), Edge.snapshots(before));
    }

    private static void savedThoughNothingChanges() {
        Edge.Recipe same = () -> Edge.with("aw", "aw", "ab");
        savedAsItIs("2: constant", same, x -> x.constant(0, 0, 1));
        savedAsItIs("2: constant, none", same, x -> x.constant(2, 3, 0));
        savedAsItIs("3: variable", same, x -> x.variable(0, 0, 1));
        savedAsItIs("3: variable, none", same, x -> x.variable(1, 1, 0));
        savedAsItIs("4: multiply with the empty product", () -> Edge.with("", "w", "a"), x -> x.multiply(1, 0));
        savedAsItIs("4: multiply the empty product with itself", FactorMatch::new, x -> x.multiply(2, 2));
        savedAsItIs("5: rewrite to the same", same, x -> x.rewrite(0));
        savedAsItIs("5: rewrite of empty products", FactorMatch::new, x -> x.rewrite(0));
        savedAsItIs("6: cancel, nothing in common", () -> Edge.with("w", "x", "a"), x -> x.cancel(0, 1));
        savedAsItIs("6: cancel, empty", FactorMatch::new, x -> x.cancel(1, 1));
        savedAsItIs("7: set 0", same, x -> x.set(0, 1));
        savedAsItIs("7: set 1", same, x -> x.set(1, 9));
        savedAsItIs("11: read the same", () -> Edge.typed("1"), x -> x.read(0));
        Edge.Recipe taken = () -> {
            FactorMatch x = same.make();
            x.take(0);
            return x;
        };
        savedAsItIs("13: restore the same", taken, x -> x.restore(0));
    }

    private static void savedAsItIs(String name, Edge.Recipe recipe, Edge.Call call) {
        FactorMatch x = recipe.make();
        String before = Edge.told(x);
        int saved = x.count(10);
        Object answer = Check.answer(() -> call.on(x));
        Check.same(name + " does not throw: " + answer, answer instanceof String, false);
        Check.same(name + " changes nothing", Edge.told(x), before);
        Check.same(name + " saves all the same", x.count(10), Math.min(6, saved + 1));
        saves(name, recipe, call);
    }

    /** What is not marked undoable: the history is as before. */
    private static void callsThatSaveNothing(Stock stock) {
        savesNothing("8: append", stock, x -> x.append('a'));
        savesNothing("9: clearBuffer", stock, x -> x.clearBuffer());
        savesNothing("10: firstError", stock, x -> x.firstError());
        savesNothing("12: take 0", stock, x -> x.take(0));
        savesNothing("12: take 1", stock, x -> x.take(1));
    }

    private static void savesNothing(String name, Stock stock, Edge.Call call) {
        FactorMatch x = stock.make();
        Check.answer(() -> call.on(x));
        Check.same(name + " of " + stock + " leaves the state", Edge.told(x), Edge.told(stock.make()));
        Check.same(name + " of " + stock + " saves nothing", Edge.history(x), Edge.history(stock.make()));
    }

    // ---- looks and what would be: nothing is changed

    private static void looks(Stock stock) {
        List<Object> untouched = Edge.whole(stock.make());
        FactorMatch x = stock.make();
        // each twice: what a call remembers must not tell on the next one
        Object first = allLooks(x);
        Check.same("looks of " + stock + " answer the same again", allLooks(x), first);
        Check.same("looks of " + stock + " change nothing", Edge.whole(x), untouched);
    }

    private static List<Object> allLooks(FactorMatch x) {
        List<Object> all = new ArrayList<>(List.of(x.firstError(), x.matchers(0), x.matchers(1), x.openShare(),
                x.digest(), x.sums(2, 2, 2, 2), x.sums(6, 6, 6, 6), x.sums(0, 0, 0, 0)));
        for (int i = 0; i <= 10; i++) {
            all.add(x.count(i));
        }
        for (int i = 0; i < 8; i++) {
            all.add(x.times(0, i) + " " + x.times(1, i) + " " + x.times(2, i));
        }
        for (int i = 0; i < 4; i++) {
            int n = i;
            all.addAll(List.of(x.rest(i), x.solutions(i), x.shortest(i), x.least(i, 0), x.setting(i % 2)));
            all.addAll(List.of(x.ifMore(i, 9), x.ifMore(i, 1), x.ifMore(i, 0), x.ifMore(i, -9)));
            all.add(Check.answer(() -> x.value(0, n, 0)));
            all.add(Check.answer(() -> x.value(1, 0, n)));
            all.add(Check.answer(() -> x.ifRewritten(n, n)));
        }
        return all;
    }
}
