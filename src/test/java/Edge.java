import java.util.ArrayList;
import java.util.List;

/** What the tests of edges share: objects made alike by a recipe, and all that can be seen of one. */
final class Edge {
    static final String BOUNDS = "throws IndexOutOfBoundsException";
    static final String ARGUMENT = "throws IllegalArgumentException";
    static final String STATE = "throws IllegalStateException";

    interface Recipe {
        FactorMatch make();
    }

    interface Call {
        Object on(FactorMatch x);
    }

    private Edge() {
    }

    // ---- objects

    static void type(FactorMatch x, String text) {
        for (char c : text.toCharArray()) {
            x.append(c);
        }
    }

    /** Products by calls of constant and variable, so that no buffer is needed for them. */
    static void put(FactorMatch x, int product, String text) {
        for (int i = 0; i < text.length(); i++) {
            int factor = "abcdwxyz".indexOf(text.charAt(i));
            int n = i + 1 < text.length() ? "0123456789".indexOf(text.charAt(i + 1)) : -1;
            if (factor >= 4) {
                x.variable(product, factor - 4, n < 0 ? 1 : n);
            } else if (factor >= 0) {
                x.constant(product, factor, n < 0 ? 1 : n);
            }
        }
    }

    /** Pattern, other pattern, subject; with saved states. */
    static FactorMatch with(String pattern, String other, String subject) {
        FactorMatch x = new FactorMatch();
        put(x, 0, pattern);
        put(x, 1, other);
        put(x, 2, subject);
        return x;
    }

    static FactorMatch typed(String text) {
        FactorMatch x = new FactorMatch();
        type(x, text);
        return x;
    }

    // ---- what can be seen

    static String tell(FactorMatch x, int product) {
        StringBuilder all = new StringBuilder();
        for (int f = 0; f < 8; f++) {
            int n = x.times(product, f);
            all.append(n == 0 ? "" : "abcdwxyz".charAt(f) + (n == 1 ? "" : String.valueOf(n)));
        }
        return all.length() == 0 ? "1" : all.toString();
    }

    /** The three products and the settings. */
    static String told(FactorMatch x) {
        return tell(x, 0) + " " + tell(x, 1) + " " + tell(x, 2) + " " + x.setting(0) + x.setting(1);
    }

    static String row(FactorMatch x, int matcher) {
        StringBuilder all = new StringBuilder();
        for (int v = 0; v < 4; v++) {
            all.append(v == 0 ? "" : " ");
            for (int c = 0; c < 4; c++) {
                int n = x.value(matcher, v, c);
                all.append(n == -1 ? "-" : String.valueOf(n));
            }
        }
        return all.toString();
    }

    static String leasts(FactorMatch x) {
        StringBuilder all = new StringBuilder();
        for (int i = 0; i < 100 && x.least(i, 0) != -1; i++) {
            all.append(i == 0 ? "" : " ");
            for (int v = 0; v < 4; v++) {
                all.append(x.least(i, v));
            }
        }
        return all.toString();
    }

    /** The saved states from the latest to the oldest; the object is used up by it. */
    static List<String> history(FactorMatch x) {
        List<String> all = new ArrayList<>();
        for (int i = 0; i < 20 && x.count(10) > 0; i++) {
            x.undo();
            all.add(told(x));
        }
        return all;
    }

    /** What the snapshots hold; the object is used up by it. */
    static List<String> snapshots(FactorMatch x) {
        List<String> all = new ArrayList<>();
        for (int s = 0; s < 2; s++) {
            int n = s;
            Object answer = Check.answer(() -> x.restore(n));
            all.add(answer instanceof String ? (String) answer : tell(x, 0) + " " + tell(x, 1) + " " + tell(x, 2));
        }
        return all;
    }

    /** All that can be seen of an object, which is used up by it. */
    static List<Object> whole(FactorMatch x) {
        List<Object> all = new ArrayList<>();
        all.add(x.digest());
        all.add(told(x));
        all.add(x.count(9));
        all.add(x.count(10));
        all.add(x.firstError());
        all.add(x.clearBuffer());
        all.add(history(x));
        all.add(snapshots(x));
        return all;
    }

    // ---- checks

    static void same(String what, Object got, Object due) {
        Check.same(what, got, due);
    }

    static void answers(String what, Recipe recipe, Call call, Object due) {
        FactorMatch x = recipe.make();
        Check.same(what, Check.answer(() -> call.on(x)), due);
    }

    /** The call throws just this exception, and the object is as one on which it was not called. */
    static void refused(String what, Recipe recipe, Call call, String due) {
        FactorMatch x = recipe.make();
        Check.same(what, Check.answer(() -> call.on(x)), due);
        Check.same(what + ", the whole afterwards", whole(x), whole(recipe.make()));
    }
}
