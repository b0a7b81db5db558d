/**
 * Products whose factors are joined and unordered: two patterns of constants and variables, a subject of
 * constants, and all matchers that make the pattern the subject, told by numbers.
 */
public final class FactorMatch {
    /** There is nothing to return. */
    public static final int NONE = -1;

    private static final int CONSTANTS = 4;
    private static final int VARIABLES = 4;
    private static final int FACTORS = CONSTANTS + VARIABLES;
    private static final int PRODUCTS = 3;
    private static final int PATTERN = 0;
    private static final int OTHER = 1;
    private static final int SUBJECT = 2;
    private static final int SETTINGS = 2;
    private static final int SNAPSHOTS = 2;

    private static final int MOST_CONSTANT = 9;
    private static final int MOST_VARIABLE = 5;
    private static final int MOST_IN_SUM = 6;
    private static final int FIRST_MATCHERS = 20;

    /** A state is one row: the factors of product 0, of 1, of 2, then the settings. */
    private static final int FIRST_SETTING = PRODUCTS * FACTORS;
    private static final int EMPTY_SETTING = FIRST_SETTING;
    private static final int MOST_SETTING = FIRST_SETTING + 1;
    private static final int STATE = FIRST_SETTING + SETTINGS;

    private final int[] state = new int[STATE];
    private final int[] draft = new int[FACTORS];
    private final int[][] snapshots = new int[SNAPSHOTS][FIRST_SETTING];
    private final boolean[] taken = new boolean[SNAPSHOTS];
    private final History history = new History();
    private final Text text = new Text();
    private final Equations equations = new Equations();
    private final Leasts leasts = new Leasts();

    public FactorMatch() {
        state[EMPTY_SETTING] = 1;
        state[MOST_SETTING] = MOST_CONSTANT;
    }

    // ---- products

    public int constant(int product, int constant, int times)
            throws IndexOutOfBoundsException, IllegalArgumentException {
        needIndex(product, PRODUCTS);
        needIndex(constant, CONSTANTS);
        needNumber(times, 0, MOST_CONSTANT);
        return change(product * FACTORS + constant, times);
    }

    public int variable(int pattern, int variable, int times)
            throws IndexOutOfBoundsException, IllegalArgumentException {
        needIndex(pattern, SUBJECT);
        needIndex(variable, VARIABLES);
        needNumber(times, 0, MOST_VARIABLE);
        return change(pattern * FACTORS + CONSTANTS + variable, times);
    }

    public int multiply(int product, int other) throws IndexOutOfBoundsException, IllegalStateException {
        needIndex(product, PRODUCTS);
        needIndex(other, PRODUCTS);
        for (int f = 0; f < FACTORS; f++) {
            draft[f] = state[product * FACTORS + f] + state[other * FACTORS + f];
        }
        return putDraft(product);
    }

    public int rewrite(int matcher) throws IllegalArgumentException, IllegalStateException {
        needMatcher(matcher);
        if (hasForeignVariable()) {
            throw new IllegalStateException("the other pattern has a variable without a value");
        }
        for (int f = 0; f < FACTORS; f++) {
            draft[f] = f < CONSTANTS ? rewritten(f) : 0;
        }
        return putDraft(SUBJECT);
    }

    public int cancel(int product, int other) throws IndexOutOfBoundsException {
        needIndex(product, PRODUCTS);
        needIndex(other, PRODUCTS);
        keepState();
        int all = 0;
        for (int f = 0; f < FACTORS; f++) {
            int one = state[product * FACTORS + f];
            int two = state[other * FACTORS + f];
            int common = Math.min(one, two);
            // both are read before either is written: they may be the same product
            state[product * FACTORS + f] = one - common;
            state[other * FACTORS + f] = two - common;
            all += common;
        }
        return all;
    }

    public int set(int setting, int value) throws IndexOutOfBoundsException, IllegalArgumentException {
        needIndex(setting, SETTINGS);
        needNumber(value, 0, setting == 0 ? 1 : MOST_CONSTANT);
        return change(FIRST_SETTING + setting, value);
    }

    // ---- texts, snapshots

    public int append(int code) throws IllegalArgumentException, IllegalStateException {
        needNumber(code, 33, 126);
        if (text.isFull()) {
            throw new IllegalStateException("the buffer is full");
        }
        text.put(code);
        return text.size();
    }

    public int clearBuffer() {
        int had = text.size();
        text.empty();
        return had;
    }

    public int firstError() {
        return text.errorPlace();
    }

    public int read(int product) throws IndexOutOfBoundsException, IllegalArgumentException, IllegalStateException {
        needIndex(product, PRODUCTS);
        if (!text.isProduct()) {
            throw new IllegalArgumentException("the buffer is not a complete product");
        }
        text.tell(draft);
        int all = putDraft(product);
        text.empty();
        return all;
    }

    public int take(int snapshot) throws IndexOutOfBoundsException {
        needIndex(snapshot, SNAPSHOTS);
        System.arraycopy(state, 0, snapshots[snapshot], 0, FIRST_SETTING);
        taken[snapshot] = true;
        return factorsOfAll();
    }

    public int restore(int snapshot) throws IndexOutOfBoundsException, IllegalStateException {
        needIndex(snapshot, SNAPSHOTS);
        if (!taken[snapshot]) {
            throw new IllegalStateException("the snapshot was not taken");
        }
        keepState();
        System.arraycopy(snapshots[snapshot], 0, state, 0, FIRST_SETTING);
        return factorsOfAll();
    }

    public int undo() throws IllegalStateException {
        if (history.size() == 0) {
            throw new IllegalStateException("there is no saved state");
        }
        history.giveBack(state);
        forgetTables();
        return history.size();
    }

    // ---- looks; nothing is changed

    public int times(int product, int factor) throws IndexOutOfBoundsException {
        needIndex(product, PRODUCTS);
        needIndex(factor, FACTORS);
        return state[product * FACTORS + factor];
    }

    public int rest(int constant) throws IndexOutOfBoundsException {
        needIndex(constant, CONSTANTS);
        return restOf(constant);
    }

    public int solutions(int constant) throws IndexOutOfBoundsException {
        needIndex(constant, CONSTANTS);
        equations.prepare(state);
        return equations.solutionsOf(constant);
    }

    public long matchers(int way) throws IllegalArgumentException {
        needNumber(way, 0, 1);
        equations.prepare(state);
        return way == 0 ? equations.bySets() : equations.byConstants();
    }

    public int value(int matcher, int variable, int constant)
            throws IndexOutOfBoundsException, IllegalArgumentException {
        needIndex(variable, VARIABLES);
        needIndex(constant, CONSTANTS);
        needMatcher(matcher);
        return valueOf(variable, constant);
    }

    public int least(int place, int variable) throws IndexOutOfBoundsException, IllegalArgumentException {
        needIndex(variable, VARIABLES);
        if (place < 0) {
            throw new IllegalArgumentException("the place is below 0");
        }
        leasts.prepare(state);
        return leasts.number(place, variable);
    }

    public int sums(int w, int x, int y, int z) throws IllegalArgumentException {
        needNumber(w, 0, MOST_IN_SUM);
        needNumber(x, 0, MOST_IN_SUM);
        needNumber(y, 0, MOST_IN_SUM);
        needNumber(z, 0, MOST_IN_SUM);
        leasts.prepare(state);
        return leasts.waysToSum(w, x, y, z);
    }

    public int count(int what) throws IllegalArgumentException {
        needNumber(what, 0, 10);
        leasts.prepare(state);
        switch (what) {
            case 0:
            case 1:
            case 2:
                return factorsOf(what);
            case 3:
                return unlikeVariables();
            case 4:
                return leasts.size();
            case 5:
                return leasts.greatestSum();
            case 6:
                return restsBelowZero();
            case 7:
                return patternsAreSame() ? 1 : 0;
            case 8:
                return commonFactors();
            case 9:
                return (taken[0] ? 1 : 0) + (taken[1] ? 1 : 0);
            default:
                return history.size();
        }
    }

    public int setting(int setting) throws IndexOutOfBoundsException {
        needIndex(setting, SETTINGS);
        return state[FIRST_SETTING + setting];
    }

    // ---- what would be; nothing is changed

    public long ifMore(int constant, int by) throws IndexOutOfBoundsException, IllegalArgumentException {
        needIndex(constant, CONSTANTS);
        needNumber(by, -MOST_CONSTANT, MOST_CONSTANT);
        equations.prepare(state);
        return equations.bySetsIfRest(constant, restOf(constant) + by);
    }

    public int ifRewritten(int matcher, int constant) throws IndexOutOfBoundsException, IllegalArgumentException {
        needIndex(constant, CONSTANTS);
        needMatcher(matcher);
        return hasForeignVariable() ? NONE : rewritten(constant);
    }

    public int shortest(int variable) throws IndexOutOfBoundsException {
        needIndex(variable, VARIABLES);
        if (!hasVariable(PATTERN, variable)) {
            return NONE;
        }
        equations.prepare(state);
        int best = NONE;
        int fewest = 0;
        for (int m = 0; m < FIRST_MATCHERS && equations.choose(m); m++) {
            int all = 0;
            for (int c = 0; c < CONSTANTS; c++) {
                all += equations.chosen(variable, c);
            }
            if (best == NONE || all < fewest) {
                best = m;
                fewest = all;
            }
        }
        return best;
    }

    public double openShare() {
        int all = factorsOf(SUBJECT);
        if (all == 0 || restsBelowZero() > 0) {
            return 0.0;
        }
        int open = 0;
        for (int c = 0; c < CONSTANTS; c++) {
            open += restOf(c);
        }
        return (double) open / (double) all;
    }

    public long digest() {
        long hash = 2593;
        for (int what = 0; what <= 10; what++) {
            hash = mix(hash, count(what));
        }
        hash = mix(hash, state[EMPTY_SETTING]);
        hash = mix(hash, state[MOST_SETTING]);
        for (int i = 0; i < FIRST_SETTING; i++) {
            hash = mix(hash, state[i]);
        }
        for (int c = 0; c < CONSTANTS; c++) {
            hash = mix(hash, restOf(c));
            hash = mix(hash, solutions(c));
            hash = mix(hash, ifMore(c, 1));
        }
        hash = mix(hash, matchers(0));
        hash = mix(hash, matchers(1));
        hash = mixMatchers(hash);
        hash = mixLeasts(hash);
        for (int v = 0; v < VARIABLES; v++) {
            hash = mix(hash, shortest(v));
        }
        hash = mix(hash, bitsOfShare(openShare()));
        hash = mix(hash, text.size());
        for (int i = 0; i < text.size(); i++) {
            hash = mix(hash, text.codeAt(i));
        }
        return hash;
    }

    // ---- parts of the digest

    private static long mix(long hash, long value) {
        return 31L * hash + value;
    }

    private long mixMatchers(long start) {
        long hash = start;
        equations.prepare(state);
        for (int m = 0; m < 3 && equations.choose(m); m++) {
            for (int v = 0; v < VARIABLES; v++) {
                for (int c = 0; c < CONSTANTS; c++) {
                    hash = mix(hash, valueOf(v, c));
                }
            }
            for (int c = 0; c < CONSTANTS; c++) {
                hash = mix(hash, hasForeignVariable() ? NONE : rewritten(c));
            }
        }
        return hash;
    }

    private long mixLeasts(long start) {
        long hash = start;
        leasts.prepare(state);
        for (int place = 0; place < 4; place++) {
            for (int v = 0; v < VARIABLES; v++) {
                hash = mix(hash, leasts.number(place, v));
            }
        }
        return mix(hash, leasts.waysToSum(2, 2, 2, 2));
    }

    /** The library's own function is not at hand; a share is 0 or from 1/36 to 1, so no other kind is told here. */
    private static long bitsOfShare(double share) {
        if (!(share > 0.0)) {
            return 0L;
        }
        double part = share;
        long exponent = 1023L;
        for (int i = 0; i < 64 && part < 1.0; i++) {
            part = part * 2.0;
            exponent--;
        }
        long fraction = (long) ((part - 1.0) * 4503599627370496.0);
        return (exponent << 52) | fraction;
    }

    // ---- what a call asks for must be there

    private static void needIndex(int index, int end) {
        if (index < 0 || index >= end) {
            throw new IndexOutOfBoundsException("there is none with this number");
        }
    }

    private static void needNumber(int number, int low, int high) {
        if (number < low || number > high) {
            throw new IllegalArgumentException("a number is out of range");
        }
    }

    /** Afterwards this matcher is the chosen one of the equations. */
    private void needMatcher(int matcher) {
        equations.prepare(state);
        if (!equations.choose(matcher)) {
            throw new IllegalArgumentException("there is no such matcher");
        }
    }

    // ---- changes

    private void forgetTables() {
        equations.forget();
        leasts.forget();
    }

    /** Each change goes through here before it writes. */
    private void keepState() {
        history.keep(state);
        forgetTables();
    }

    private int change(int place, int number) {
        keepState();
        int had = state[place];
        state[place] = number;
        return had;
    }

    private int putDraft(int product) {
        if (!draftFits(product)) {
            throw new IllegalStateException("the product would have a factor too often");
        }
        keepState();
        for (int f = 0; f < FACTORS; f++) {
            state[product * FACTORS + f] = draft[f];
        }
        return factorsOf(product);
    }

    private boolean draftFits(int product) {
        int mostVariable = product == SUBJECT ? 0 : MOST_VARIABLE;
        for (int f = 0; f < FACTORS; f++) {
            if (draft[f] > (f < CONSTANTS ? MOST_CONSTANT : mostVariable)) {
                return false;
            }
        }
        return true;
    }

    // ---- looks at the products

    private int factorsOf(int product) {
        int all = 0;
        for (int f = 0; f < FACTORS; f++) {
            all += state[product * FACTORS + f];
        }
        return all;
    }

    private int factorsOfAll() {
        return factorsOf(PATTERN) + factorsOf(OTHER) + factorsOf(SUBJECT);
    }

    private int restOf(int constant) {
        return state[SUBJECT * FACTORS + constant] - state[PATTERN * FACTORS + constant];
    }

    private boolean hasVariable(int pattern, int variable) {
        return state[pattern * FACTORS + CONSTANTS + variable] > 0;
    }

    private int unlikeVariables() {
        int unlike = 0;
        for (int v = 0; v < VARIABLES; v++) {
            unlike += hasVariable(PATTERN, v) ? 1 : 0;
        }
        return unlike;
    }

    private int restsBelowZero() {
        int below = 0;
        for (int c = 0; c < CONSTANTS; c++) {
            below += restOf(c) < 0 ? 1 : 0;
        }
        return below;
    }

    private boolean patternsAreSame() {
        for (int f = 0; f < FACTORS; f++) {
            if (state[PATTERN * FACTORS + f] != state[OTHER * FACTORS + f]) {
                return false;
            }
        }
        return true;
    }

    private int commonFactors() {
        int common = 0;
        for (int f = 0; f < FACTORS; f++) {
            int ofPatterns = Math.min(state[PATTERN * FACTORS + f], state[OTHER * FACTORS + f]);
            common += Math.min(ofPatterns, state[SUBJECT * FACTORS + f]);
        }
        return common;
    }

    // ---- the chosen matcher

    private int valueOf(int variable, int constant) {
        return hasVariable(PATTERN, variable) ? equations.chosen(variable, constant) : NONE;
    }

    private boolean hasForeignVariable() {
        for (int v = 0; v < VARIABLES; v++) {
            if (hasVariable(OTHER, v) && !hasVariable(PATTERN, v)) {
                return true;
            }
        }
        return false;
    }

    private int rewritten(int constant) {
        int all = state[OTHER * FACTORS + constant];
        for (int v = 0; v < VARIABLES; v++) {
            all += state[OTHER * FACTORS + CONSTANTS + v] * equations.chosen(v, constant);
        }
        return all;
    }

    /** The saved states; of too many the oldest one is dropped. */
    private static final class History {
        private static final int MOST = 6;

        private final int[][] kept = new int[MOST][STATE];
        private int oldest;
        private int held;

        int size() {
            return held;
        }

        void keep(int[] row) {
            System.arraycopy(row, 0, kept[(oldest + held) % MOST], 0, STATE);
            if (held < MOST) {
                held++;
            } else {
                oldest = (oldest + 1) % MOST;
            }
        }

        /** Writes the latest one into the row, and drops it. */
        void giveBack(int[] row) {
            if (held > 0) {
                held--;
                System.arraycopy(kept[(oldest + held) % MOST], 0, row, 0, STATE);
            }
        }
    }

    /** The buffer, and what it says. */
    private static final class Text {
        private static final int MOST = 60;

        // what a place stands behind
        private static final int NOTHING = 0;
        private static final int ONE = 1;
        private static final int LETTER = 2;
        private static final int DIGIT = 3;
        private static final int ERROR = 4;

        private final int[] codes = new int[MOST];
        private int length;

        int size() {
            return length;
        }

        boolean isFull() {
            return length >= MOST;
        }

        void put(int code) {
            if (length < MOST) {
                codes[length] = code;
                length++;
            }
        }

        void empty() {
            length = 0;
        }

        int codeAt(int place) {
            return place >= 0 && place < length ? codes[place] : NONE;
        }

        int errorPlace() {
            int behind = NOTHING;
            for (int i = 0; i < length; i++) {
                behind = next(behind, codeAt(i));
                if (behind == ERROR) {
                    return i;
                }
            }
            return length;
        }

        boolean isProduct() {
            return length > 0 && errorPlace() == length;
        }

        /** Writes how often each factor stands in the buffer, which holds a product. */
        void tell(int[] row) {
            for (int f = 0; f < FACTORS; f++) {
                row[f] = 0;
            }
            for (int i = 0; i < length; i++) {
                int factor = factorOf(codeAt(i));
                if (factor != NONE) {
                    int behind = codeAt(i + 1);
                    row[factor] += isTimes(behind) ? behind - '0' : 1;
                }
            }
        }

        private static int next(int behind, int code) {
            if (factorOf(code) != NONE) {
                return behind == ONE ? ERROR : LETTER;
            }
            if (code == '1') {
                return behind == NOTHING ? ONE : ERROR;
            }
            return isTimes(code) && behind == LETTER ? DIGIT : ERROR;
        }

        private static boolean isTimes(int code) {
            return code >= '2' && code <= '9';
        }

        private static int factorOf(int code) {
            if (code >= 'a' && code <= 'd') {
                return code - 'a';
            }
            return code >= 'w' && code <= 'z' ? CONSTANTS + code - 'w' : NONE;
        }
    }

    /**
     * The equations over counts, one for each constant, and how their solutions join to matchers.
     * A set of variables is a number whose bit v tells whether it has the variable v.
     */
    private static final class Equations {
        private static final int SETS = 1 << VARIABLES;
        /** Four variables of once each and a rest of 9 have the most solutions. */
        private static final int MOST_ROWS = 220;
        /** The place behind the constants, for an equation that only would be. */
        private static final int SPARE = CONSTANTS;

        private final int[] weight = new int[VARIABLES];
        private int used;
        private int most;
        private boolean canBeEmpty;
        private boolean prepared;

        /** Of each constant: its solutions in order, four bits for each number, that of the variable 0 first. */
        private final int[][] rows = new int[CONSTANTS + 1][MOST_ROWS];
        private final int[] size = new int[CONSTANTS + 1];
        /** How many solutions have numbers above 0 just for a set. */
        private final long[][] exactly = new long[CONSTANTS + 1][SETS];
        /** How many solutions have numbers above 0 for a set or a part of it. */
        private final long[][] within = new long[CONSTANTS + 1][SETS];
        /** In how many ways the constants from one on go on to a matcher, if just a set has factors before them. */
        private final long[][] ways = new long[CONSTANTS + 1][SETS];
        /** The solutions of the chosen matcher. */
        private final int[] choice = new int[CONSTANTS];

        void forget() {
            prepared = false;
        }

        void prepare(int[] state) {
            if (prepared) {
                return;
            }
            used = 0;
            for (int v = 0; v < VARIABLES; v++) {
                weight[v] = state[PATTERN * FACTORS + CONSTANTS + v];
                used |= weight[v] > 0 ? 1 << v : 0;
            }
            canBeEmpty = state[EMPTY_SETTING] == 1;
            most = state[MOST_SETTING];
            for (int c = 0; c < CONSTANTS; c++) {
                solve(c, state[SUBJECT * FACTORS + c] - state[PATTERN * FACTORS + c]);
            }
            fillWays();
            prepared = true;
        }

        int solutionsOf(int constant) {
            return size[constant];
        }

        long bySets() {
            return bySetsWith(SPARE, SPARE);
        }

        /** The number of matchers, if a constant had another rest. */
        long bySetsIfRest(int constant, int rest) {
            solve(SPARE, rest);
            return bySetsWith(constant, SPARE);
        }

        long byConstants() {
            return ways[0][0];
        }

        /** Makes a matcher the chosen one; tells whether there is one with this number. */
        boolean choose(int matcher) {
            if (matcher < 0 || matcher >= ways[0][0]) {
                return false;
            }
            long left = matcher;
            int filled = 0;
            for (int c = 0; c < CONSTANTS; c++) {
                for (int i = 0; i < size[c] && i < MOST_ROWS; i++) {
                    int then = filled | setOf(rows[c][i]);
                    if (left < ways[c + 1][then]) {
                        choice[c] = rows[c][i];
                        filled = then;
                        break;
                    }
                    left -= ways[c + 1][then];
                }
            }
            return true;
        }

        int chosen(int variable, int constant) {
            return numberIn(choice[constant], variable);
        }

        private static int numberIn(int row, int variable) {
            return (row >> (4 * (VARIABLES - 1 - variable))) & 15;
        }

        private static int setOf(int row) {
            int set = 0;
            for (int v = 0; v < VARIABLES; v++) {
                set |= numberIn(row, v) > 0 ? 1 << v : 0;
            }
            return set;
        }

        private void solve(int place, int rest) {
            size[place] = 0;
            for (int s = 0; s < SETS; s++) {
                exactly[place][s] = 0;
            }
            for (int w = 0; w <= top(0) && weight[0] * w <= rest; w++) {
                int afterW = rest - weight[0] * w;
                for (int x = 0; x <= top(1) && weight[1] * x <= afterW; x++) {
                    int afterX = afterW - weight[1] * x;
                    for (int y = 0; y <= top(2) && weight[2] * y <= afterX; y++) {
                        solveLast(place, (w << 12) | (x << 8) | (y << 4), afterX - weight[2] * y);
                    }
                }
            }
            fillWithin(place);
        }

        /** The equation leaves at most one number for the last variable. */
        private void solveLast(int place, int firstThree, int left) {
            int last = weight[3] > 0 ? left / weight[3] : 0;
            if (last > most || weight[3] * last != left) {
                return;
            }
            int row = firstThree | last;
            // a rest above 9, which only would be, can have more; these are counted, but never chosen
            if (size[place] < MOST_ROWS) {
                rows[place][size[place]] = row;
            }
            size[place]++;
            exactly[place][setOf(row)]++;
        }

        private int top(int variable) {
            return weight[variable] > 0 ? most : 0;
        }

        private void fillWithin(int place) {
            for (int s = 0; s < SETS; s++) {
                within[place][s] = exactly[place][s];
            }
            for (int v = 0; v < VARIABLES; v++) {
                for (int s = 0; s < SETS; s++) {
                    if (((s >> v) & 1) == 1) {
                        within[place][s] += within[place][s ^ (1 << v)];
                    }
                }
            }
        }

        private void fillWays() {
            for (int s = 0; s < SETS; s++) {
                ways[CONSTANTS][s] = canBeEmpty || s == used ? 1 : 0;
            }
            for (int c = CONSTANTS - 1; c >= 0; c--) {
                for (int filled = 0; filled < SETS; filled++) {
                    ways[c][filled] = waysFrom(c, filled);
                }
            }
        }

        private long waysFrom(int constant, int filled) {
            long all = 0;
            for (int s = 0; s < SETS; s++) {
                all += exactly[constant][s] * ways[constant + 1][filled | s];
            }
            return all;
        }

        /** The number of matchers, where a constant's equation is looked up at another place. */
        private long bySetsWith(int constant, int place) {
            long all = 0;
            for (int empty = 0; empty < SETS; empty++) {
                boolean counts = canBeEmpty ? empty == 0 : (empty & used) == empty;
                if (counts) {
                    long matchers = 1;
                    for (int c = 0; c < CONSTANTS; c++) {
                        matchers *= within[c == constant ? place : c][used & ~empty];
                    }
                    all += Integer.bitCount(empty) % 2 == 0 ? matchers : -matchers;
                }
            }
            return all;
        }
    }

    /** The least solutions of the equation of the two patterns. */
    private static final class Leasts {
        /** Differences of 5, 5, -4 and -4 have the most least solutions. */
        private static final int MOST = 30;
        private static final int MOST_NUMBER = 5;
        private static final int SUM_ROWS = 7 * 7 * 7 * 7;

        private final int[] difference = new int[VARIABLES];
        private final int[] row = new int[VARIABLES];
        /** Four numbers for each least solution, in their order. */
        private final int[] numbers = new int[MOST * VARIABLES];
        private int found;
        private boolean prepared;
        /** In how many ways each row up to the one that is asked for is a sum. */
        private final int[] ways = new int[SUM_ROWS];

        void forget() {
            prepared = false;
        }

        void prepare(int[] state) {
            if (prepared) {
                return;
            }
            for (int v = 0; v < VARIABLES; v++) {
                int place = CONSTANTS + v;
                difference[v] = state[PATTERN * FACTORS + place] - state[OTHER * FACTORS + place];
            }
            found = 0;
            for (int w = 0; w <= MOST_NUMBER; w++) {
                for (int x = 0; x <= MOST_NUMBER; x++) {
                    for (int y = 0; y <= MOST_NUMBER; y++) {
                        for (int z = 0; z <= MOST_NUMBER; z++) {
                            look(w, x, y, z);
                        }
                    }
                }
            }
            prepared = true;
        }

        int size() {
            return found;
        }

        int number(int place, int variable) {
            return place >= 0 && place < found ? numbers[place * VARIABLES + variable] : NONE;
        }

        int greatestSum() {
            int greatest = 0;
            for (int i = 0; i < found; i++) {
                int sum = number(i, 0) + number(i, 1) + number(i, 2) + number(i, 3);
                greatest = Math.max(greatest, sum);
            }
            return greatest;
        }

        int waysToSum(int w, int x, int y, int z) {
            if (!solves(w, x, y, z)) {
                return 0;
            }
            setRow(w, x, y, z);
            int end = (w + 1) * (x + 1) * (y + 1) * (z + 1);
            for (int i = 0; i < end && i < SUM_ROWS; i++) {
                ways[i] = i == 0 ? 1 : 0;
            }
            for (int i = 0; i < found; i++) {
                if (isAtMostRow(i)) {
                    addSums(number(i, 0), number(i, 1), number(i, 2), number(i, 3));
                }
            }
            return end > 0 && end <= SUM_ROWS ? ways[end - 1] : 0;
        }

        private void setRow(int w, int x, int y, int z) {
            row[0] = w;
            row[1] = x;
            row[2] = y;
            row[3] = z;
        }

        private boolean solves(int w, int x, int y, int z) {
            return difference[0] * w + difference[1] * x + difference[2] * y + difference[3] * z == 0;
        }

        /** Rows come in their order, so a least one that is at most as great has been found before. */
        private void look(int w, int x, int y, int z) {
            if (!solves(w, x, y, z) || w + x + y + z == 0) {
                return;
            }
            setRow(w, x, y, z);
            for (int i = 0; i < found; i++) {
                if (isAtMostRow(i)) {
                    return;
                }
            }
            if (found < MOST) {
                System.arraycopy(row, 0, numbers, found * VARIABLES, VARIABLES);
                found++;
            }
        }

        private boolean isAtMostRow(int place) {
            for (int v = 0; v < VARIABLES; v++) {
                if (number(place, v) > row[v]) {
                    return false;
                }
            }
            return true;
        }

        private int placeOf(int w, int x, int y, int z) {
            return ((w * (row[1] + 1) + x) * (row[2] + 1) + y) * (row[3] + 1) + z;
        }

        /** In the order of the rows, so that a least solution can be taken any number of times. */
        private void addSums(int leastW, int leastX, int leastY, int leastZ) {
            int back = placeOf(leastW, leastX, leastY, leastZ);
            for (int w = leastW; w <= row[0]; w++) {
                for (int x = leastX; x <= row[1]; x++) {
                    for (int y = leastY; y <= row[2]; y++) {
                        for (int z = leastZ; z <= row[3]; z++) {
                            addWays(placeOf(w, x, y, z), back);
                        }
                    }
                }
            }
        }

        private void addWays(int place, int back) {
            if (back >= 0 && back <= place && place < SUM_ROWS) {
                ways[place] += ways[place - back];
            }
        }
    }
}
