import java.util.Arrays;

/**
 * A tool for programmable logic arrays: product terms, evaluation, removal of
 * redundant terms, and simple column folding. Sets of inputs, outputs, columns
 * and terms are bit sets throughout.
 */
public final class PlaFolder {
    public static final int OUT_OF_RANGE = -2;
    public static final int NOT_POSSIBLE = -3;
    public static final int CYCLE = -4;
    public static final int FULL = -5;
    public static final int NOTHING_SAVED = -6;
    public static final int NONE = -1;

    private static final int MOST_INPUTS = 6;
    private static final int MOST_OUTPUTS = 4;
    private static final int MOST_TERMS = 10;
    private static final int INPUTS_AT_FIRST = 4;
    private static final int OUTPUTS_AT_FIRST = 2;
    private static final int FIRST_OUTPUT_COLUMN = MOST_INPUTS;
    private static final int COLUMNS = MOST_INPUTS + MOST_OUTPUTS;
    private static final int INPUT_COLUMNS = (1 << FIRST_OUTPUT_COLUMN) - 1;
    private static final int OUTPUT_COLUMNS = (1 << COLUMNS) - 1 - INPUT_COLUMNS;
    private static final int MOST_FOLDS = MOST_INPUTS / 2 + MOST_OUTPUTS / 2;
    private static final int MOST_SAVED = 5;
    private static final int ERROR_CODES = OUT_OF_RANGE - NOTHING_SAVED + 1;
    private static final long DIGEST_START = 2713L;

    /** Bit x of entry k is the value of input k in the input word x. */
    private static final long[] WORDS_WITH_INPUT = {
        0xAAAAAAAAAAAAAAAAL,
        0xCCCCCCCCCCCCCCCCL,
        0xF0F0F0F0F0F0F0F0L,
        0xFF00FF00FF00FF00L,
        0xFFFF0000FFFF0000L,
        0xFFFFFFFF00000000L,
    };

    private final State state = new State();
    private final History history = new History();
    private final Demands demands = new Demands();
    private final RowOrder rows = new RowOrder();
    private final BestFolding best = new BestFolding();
    private final int[] errors = new int[ERROR_CODES];

    public PlaFolder() {
    }

    public int setSize(int inputs, int outputs) {
        if (inputs < 1 || inputs > MOST_INPUTS || outputs < 1 || outputs > MOST_OUTPUTS) {
            return fail(OUT_OF_RANGE);
        }
        history.push(state);
        int before = state.termCount;
        state.resize(inputs, outputs);
        termsChanged();
        return before;
    }

    public int addTerm(int ones, int zeros, int outputs) {
        if (!state.takesTerm(ones, zeros, outputs)) {
            return fail(OUT_OF_RANGE);
        }
        if (state.termCount >= MOST_TERMS) {
            return fail(FULL);
        }
        history.push(state);
        state.appendTerm(ones, zeros, outputs);
        termsChanged();
        return state.termCount - 1;
    }

    public int removeTerm(int term) {
        if (!state.hasTerm(term)) {
            return fail(OUT_OF_RANGE);
        }
        history.push(state);
        state.dropTerm(term);
        termsChanged();
        return state.termCount;
    }

    public int terms() {
        return state.termCount;
    }

    public int literals(int term) {
        if (!state.hasTerm(term)) {
            return fail(OUT_OF_RANGE);
        }
        return Integer.bitCount(state.ones[term] | state.zeros[term]);
    }

    public int evaluate(int x) {
        if (x < 0 || x >= 1 << state.inputs) {
            return fail(OUT_OF_RANGE);
        }
        return state.outputWord(x);
    }

    public int onCount(int output) {
        if (output < 0 || output >= state.outputs) {
            return fail(OUT_OF_RANGE);
        }
        return Long.bitCount(state.wordsOfOutput(output, NONE));
    }

    public int isRedundant(int term) {
        if (!state.hasTerm(term)) {
            return fail(OUT_OF_RANGE);
        }
        return flag(state.isSpare(term));
    }

    public int removeRedundant() {
        history.push(state);
        int before = state.termCount;
        // A removal never makes another term redundant, so no term that was
        // passed over needs a second look.
        for (int term = before - 1; term >= 0; term--) {
            if (state.isSpare(term)) {
                state.dropTerm(term);
            }
        }
        if (state.termCount < before) {
            termsChanged();
        }
        return before - state.termCount;
    }

    public int uses(int column) {
        if (!state.hasColumn(column)) {
            return fail(OUT_OF_RANGE);
        }
        return state.termsOfColumn(column);
    }

    public int canFold(int u, int v) {
        if (!state.hasColumn(u) || !state.hasColumn(v)) {
            return fail(OUT_OF_RANGE);
        }
        return flag(state.isPair(u, v));
    }

    public int fold(int u, int v) {
        if (!state.hasColumn(u) || !state.hasColumn(v)) {
            return fail(OUT_OF_RANGE);
        }
        if (!state.isPair(u, v) || state.mateOf(u) != NONE || state.mateOf(v) != NONE) {
            return fail(NOT_POSSIBLE);
        }
        if (!demands.allow(state.termsOfColumn(u), state.termsOfColumn(v))) {
            return fail(CYCLE);
        }
        history.push(state);
        state.join(u, v);
        foldsChanged();
        return state.foldCount;
    }

    public int unfold(int column) {
        if (!state.hasColumn(column)) {
            return fail(OUT_OF_RANGE);
        }
        if (state.mateOf(column) == NONE) {
            return fail(NOT_POSSIBLE);
        }
        history.push(state);
        state.part(column);
        foldsChanged();
        return state.foldCount;
    }

    public int partner(int column) {
        if (!state.hasColumn(column)) {
            return fail(OUT_OF_RANGE);
        }
        return state.mateOf(column);
    }

    public int folds() {
        return state.foldCount;
    }

    public int termAt(int row) {
        if (!state.hasTerm(row)) {
            return fail(OUT_OF_RANGE);
        }
        return rows.termInRow[row];
    }

    public int rowOf(int term) {
        if (!state.hasTerm(term)) {
            return fail(OUT_OF_RANGE);
        }
        return rows.rowOfTerm[term];
    }

    public int mustPrecede(int a, int b) {
        if (!state.hasTerm(a) || !state.hasTerm(b)) {
            return fail(OUT_OF_RANGE);
        }
        return flag(contains(demands.above[b], a));
    }

    public int area() {
        return state.termCount * (state.inputs + state.outputs - state.foldCount);
    }

    public int span(int column) {
        if (!state.hasColumn(column)) {
            return fail(OUT_OF_RANGE);
        }
        return rows.spread(state.termsOfColumn(column), state.termCount);
    }

    public int bestUpper(int index) {
        if (index < -1) {
            return fail(OUT_OF_RANGE);
        }
        findBest();
        if (index == -1) {
            return best.count;
        }
        return index < best.count ? best.upper[index] : NONE;
    }

    public int bestLower(int index) {
        if (index < 0) {
            return fail(OUT_OF_RANGE);
        }
        findBest();
        return index < best.count ? best.lower[index] : NONE;
    }

    public int foldBest() {
        findBest();
        history.push(state);
        state.partAll();
        for (int i = 0; i < best.count; i++) {
            state.join(best.upper[i], best.lower[i]);
        }
        foldsChanged();
        return area();
    }

    public int undo() {
        if (history.count == 0) {
            return fail(NOTHING_SAVED);
        }
        history.pop(state);
        termsChanged();
        return history.count;
    }

    public int errorCount(int code) {
        if (code < NOTHING_SAVED || code > OUT_OF_RANGE) {
            return fail(OUT_OF_RANGE);
        }
        return errors[OUT_OF_RANGE - code];
    }

    public long digest() {
        findBest();
        long h = DIGEST_START;
        for (int i = 0; i < ERROR_CODES; i++) {
            h = mix(h, errors[i]);
        }
        h = mix(h, state.inputs);
        h = mix(h, state.outputs);
        h = mix(h, state.termCount);
        h = mixTerms(h);
        h = mixColumns(h);
        h = mix(h, area());
        h = mixBest(h);
        return mix(h, history.count);
    }

    private long mixTerms(long start) {
        long h = start;
        for (int term = 0; term < state.termCount; term++) {
            h = mix(h, state.ones[term]);
            h = mix(h, state.zeros[term]);
            h = mix(h, state.outs[term]);
            h = mix(h, flag(state.isSpare(term)));
            h = mix(h, rows.rowOfTerm[term]);
        }
        return h;
    }

    private long mixColumns(long start) {
        long h = start;
        for (int column = 0; column < COLUMNS; column++) {
            if (state.hasColumn(column)) {
                int used = state.termsOfColumn(column);
                h = mix(h, used);
                h = mix(h, state.mateOf(column));
                h = mix(h, rows.spread(used, state.termCount));
            }
        }
        return h;
    }

    private long mixBest(long start) {
        long h = mix(start, best.count);
        for (int i = 0; i < best.count; i++) {
            h = mix(h, best.upper[i]);
            h = mix(h, best.lower[i]);
        }
        return h;
    }

    private int fail(int code) {
        errors[OUT_OF_RANGE - code]++;
        return code;
    }

    private void termsChanged() {
        best.known = false;
        foldsChanged();
    }

    private void foldsChanged() {
        demands.collect(state);
        rows.build(demands, state.termCount);
    }

    // The search is the dearest work here, and it depends on the terms alone.
    private void findBest() {
        if (!best.known) {
            best.search(state);
        }
    }

    private static long mix(long h, long value) {
        return 31L * h + value;
    }

    private static int flag(boolean yes) {
        return yes ? 1 : 0;
    }

    private static boolean contains(int set, int element) {
        return (set >> element & 1) == 1;
    }

    /** The size, the terms and the folds: all that an undo brings back. */
    private static final class State {
        private int inputs = INPUTS_AT_FIRST;
        private int outputs = OUTPUTS_AT_FIRST;
        private int termCount = 0;
        private int foldCount = 0;
        private final int[] ones = new int[MOST_TERMS];
        private final int[] zeros = new int[MOST_TERMS];
        private final int[] outs = new int[MOST_TERMS];
        /** Bit x of an entry tells whether the term is true for the input word x. */
        private final long[] words = new long[MOST_TERMS];
        /** The column that lies below or above a column, or NONE. */
        private final int[] lowerOf = new int[COLUMNS];
        private final int[] upperOf = new int[COLUMNS];

        private State() {
            Arrays.fill(lowerOf, NONE);
            Arrays.fill(upperOf, NONE);
        }

        private void copyFrom(State other) {
            inputs = other.inputs;
            outputs = other.outputs;
            termCount = other.termCount;
            foldCount = other.foldCount;
            System.arraycopy(other.ones, 0, ones, 0, MOST_TERMS);
            System.arraycopy(other.zeros, 0, zeros, 0, MOST_TERMS);
            System.arraycopy(other.outs, 0, outs, 0, MOST_TERMS);
            System.arraycopy(other.words, 0, words, 0, MOST_TERMS);
            System.arraycopy(other.lowerOf, 0, lowerOf, 0, COLUMNS);
            System.arraycopy(other.upperOf, 0, upperOf, 0, COLUMNS);
        }

        private void resize(int newInputs, int newOutputs) {
            inputs = newInputs;
            outputs = newOutputs;
            termCount = 0;
            partAll();
        }

        private boolean hasTerm(int term) {
            return term >= 0 && term < termCount;
        }

        private boolean hasColumn(int column) {
            if (column < FIRST_OUTPUT_COLUMN) {
                return column >= 0 && column < inputs;
            }
            return column - FIRST_OUTPUT_COLUMN < outputs;
        }

        private boolean takesTerm(int one, int zero, int out) {
            boolean inputsExist = (one | zero) >>> inputs == 0;
            boolean outputsExist = out >>> outputs == 0;
            return inputsExist && outputsExist && (one & zero) == 0 && out != 0;
        }

        private void appendTerm(int one, int zero, int out) {
            if (termCount >= MOST_TERMS) {
                return;
            }
            ones[termCount] = one;
            zeros[termCount] = zero;
            outs[termCount] = out;
            words[termCount] = wordsOfTerm(one, zero);
            termCount++;
            partAll();
        }

        private long wordsOfTerm(int one, int zero) {
            long found = allWords();
            for (int k = 0; k < inputs; k++) {
                if (contains(one, k)) {
                    found &= WORDS_WITH_INPUT[k];
                }
                if (contains(zero, k)) {
                    found &= ~WORDS_WITH_INPUT[k];
                }
            }
            return found;
        }

        // A shift by 64 would shift by nothing, so six inputs stand apart.
        private long allWords() {
            return inputs == MOST_INPUTS ? -1L : (1L << (1 << inputs)) - 1L;
        }

        private void dropTerm(int term) {
            for (int i = term + 1; i < termCount; i++) {
                ones[i - 1] = ones[i];
                zeros[i - 1] = zeros[i];
                outs[i - 1] = outs[i];
                words[i - 1] = words[i];
            }
            termCount--;
            partAll();
        }

        private int outputWord(int x) {
            int word = 0;
            for (int term = 0; term < termCount; term++) {
                if ((words[term] >>> x & 1L) == 1L) {
                    word |= outs[term];
                }
            }
            return word;
        }

        /** The input words for which an output is 1 if one term is left out (NONE: no term is). */
        private long wordsOfOutput(int output, int leftOut) {
            long found = 0L;
            for (int term = 0; term < termCount; term++) {
                if (term != leftOut && contains(outs[term], output)) {
                    found |= words[term];
                }
            }
            return found;
        }

        private boolean isSpare(int term) {
            for (int k = 0; k < outputs; k++) {
                if (contains(outs[term], k) && (words[term] & ~wordsOfOutput(k, term)) != 0L) {
                    return false;
                }
            }
            return true;
        }

        private int termsOfColumn(int column) {
            int found = 0;
            for (int term = 0; term < termCount; term++) {
                int columns = ones[term] | zeros[term] | outs[term] << FIRST_OUTPUT_COLUMN;
                if (contains(columns, column)) {
                    found |= 1 << term;
                }
            }
            return found;
        }

        private boolean isPair(int u, int v) {
            boolean sameKind = u < FIRST_OUTPUT_COLUMN == v < FIRST_OUTPUT_COLUMN;
            return u != v && sameKind && (termsOfColumn(u) & termsOfColumn(v)) == 0;
        }

        private int mateOf(int column) {
            return lowerOf[column] != NONE ? lowerOf[column] : upperOf[column];
        }

        private void join(int u, int v) {
            lowerOf[u] = v;
            upperOf[v] = u;
            foldCount++;
        }

        private void part(int column) {
            int mate = mateOf(column);
            if (mate == NONE) {
                return;
            }
            lowerOf[column] = NONE;
            upperOf[column] = NONE;
            lowerOf[mate] = NONE;
            upperOf[mate] = NONE;
            foldCount--;
        }

        private void partAll() {
            Arrays.fill(lowerOf, NONE);
            Arrays.fill(upperOf, NONE);
            foldCount = 0;
        }
    }

    /** The saved states, the oldest first. */
    private static final class History {
        private final State[] saved = new State[MOST_SAVED];
        private int count = 0;

        private History() {
            for (int i = 0; i < MOST_SAVED; i++) {
                saved[i] = new State();
            }
        }

        private void push(State current) {
            if (count >= MOST_SAVED) {
                dropOldest();
            }
            saved[count].copyFrom(current);
            count++;
        }

        // The oldest state's object goes to the end, to be written over.
        private void dropOldest() {
            State oldest = saved[0];
            for (int i = 1; i < MOST_SAVED; i++) {
                saved[i - 1] = saved[i];
            }
            saved[MOST_SAVED - 1] = oldest;
            count = MOST_SAVED - 1;
        }

        private void pop(State current) {
            if (count <= 0) {
                return;
            }
            count--;
            current.copyFrom(saved[count]);
        }
    }

    /** What a feasible set of folds demands of the order of the terms. */
    private static final class Demands {
        /** For each term, the terms that must lie above it, directly or through others. */
        private final int[] above = new int[MOST_TERMS];

        private void clear() {
            Arrays.fill(above, 0);
        }

        private void copyFrom(Demands other) {
            System.arraycopy(other.above, 0, above, 0, MOST_TERMS);
        }

        private void collect(State state) {
            clear();
            for (int u = 0; u < COLUMNS; u++) {
                int v = state.lowerOf[u];
                if (v != NONE) {
                    add(state.termsOfColumn(u), state.termsOfColumn(v));
                }
            }
        }

        private int withAllAbove(int terms) {
            int found = terms;
            for (int term = 0; term < MOST_TERMS; term++) {
                if (contains(terms, term)) {
                    found |= above[term];
                }
            }
            return found;
        }

        // Each new demand leads from an upper term to a lower one, so a cycle
        // can close only where a lower term must lie above an upper one already.
        private boolean allow(int upperTerms, int lowerTerms) {
            return (withAllAbove(upperTerms) & lowerTerms) == 0;
        }

        private void add(int upperTerms, int lowerTerms) {
            int higher = withAllAbove(upperTerms);
            for (int term = 0; term < MOST_TERMS; term++) {
                if (contains(lowerTerms, term) || (above[term] & lowerTerms) != 0) {
                    above[term] |= higher;
                }
            }
        }
    }

    /** The terms in the order of the rows, from the top. */
    private static final class RowOrder {
        private final int[] termInRow = new int[MOST_TERMS];
        private final int[] rowOfTerm = new int[MOST_TERMS];

        private void build(Demands demands, int termCount) {
            int placed = 0;
            for (int row = 0; row < termCount; row++) {
                int term = nextTerm(demands, termCount, placed);
                if (term == NONE) {
                    return;
                }
                termInRow[row] = term;
                rowOfTerm[term] = row;
                placed |= 1 << term;
            }
        }

        private static int nextTerm(Demands demands, int termCount, int placed) {
            for (int term = 0; term < termCount; term++) {
                if (!contains(placed, term) && (demands.above[term] & ~placed) == 0) {
                    return term;
                }
            }
            return NONE;
        }

        /** The number of rows from the uppermost to the lowest of some terms, 0 for no term. */
        private int spread(int chosen, int termCount) {
            int first = termCount;
            int last = -1;
            for (int term = 0; term < termCount; term++) {
                if (contains(chosen, term)) {
                    first = Math.min(first, rowOfTerm[term]);
                    last = Math.max(last, rowOfTerm[term]);
                }
            }
            return last < 0 ? 0 : last - first + 1;
        }
    }

    /**
     * The search for the best folding. It visits the lists of folds in their
     * order and keeps a list only if it is longer than the one kept, so of the
     * longest lists the first one stays.
     */
    private static final class BestFolding {
        private boolean known = false;
        private int count = 0;
        private final int[] upper = new int[MOST_FOLDS];
        private final int[] lower = new int[MOST_FOLDS];
        private final int[] triedUpper = new int[MOST_FOLDS];
        private final int[] triedLower = new int[MOST_FOLDS];
        private final int[] used = new int[COLUMNS];
        /** For each column, the columns with which it makes a fold. */
        private final int[] mates = new int[COLUMNS];
        /** Entry d holds what the first d folds of the list that is tried demand. */
        private final Demands[] demandsAt = new Demands[MOST_FOLDS + 1];

        private BestFolding() {
            for (int depth = 0; depth <= MOST_FOLDS; depth++) {
                demandsAt[depth] = new Demands();
            }
        }

        private void search(State state) {
            count = 0;
            extend(0, 0, foldableColumns(state));
            known = true;
        }

        private int foldableColumns(State state) {
            int foldable = 0;
            for (int u = 0; u < COLUMNS; u++) {
                used[u] = state.termsOfColumn(u);
                mates[u] = matesOf(state, u);
                if (mates[u] != 0) {
                    foldable |= 1 << u;
                }
            }
            return foldable;
        }

        private static int matesOf(State state, int u) {
            int found = 0;
            for (int v = 0; v < COLUMNS; v++) {
                if (state.hasColumn(u) && state.hasColumn(v) && state.isPair(u, v)) {
                    found |= 1 << v;
                }
            }
            return found;
        }

        private void extend(int depth, int firstUpper, int free) {
            if (depth > count) {
                keep(depth);
            }
            for (int u = firstUpper; u < COLUMNS; u++) {
                if (depth + mostFolds(free, u) <= count) {
                    return;
                }
                if (contains(free, u)) {
                    tryLowers(depth, u, free);
                }
            }
        }

        private void tryLowers(int depth, int u, int free) {
            if (depth >= MOST_FOLDS) {
                return;
            }
            int candidates = mates[u] & free;
            for (int v = 0; v < COLUMNS; v++) {
                if (contains(candidates, v) && demandsAt[depth].allow(used[u], used[v])) {
                    triedUpper[depth] = u;
                    triedLower[depth] = v;
                    demandsAt[depth + 1].copyFrom(demandsAt[depth]);
                    demandsAt[depth + 1].add(used[u], used[v]);
                    extend(depth + 1, u + 1, free & ~(1 << u | 1 << v));
                }
            }
        }

        private void keep(int depth) {
            count = depth;
            System.arraycopy(triedUpper, 0, upper, 0, depth);
            System.arraycopy(triedLower, 0, lower, 0, depth);
        }

        /** A bound on the folds of free columns whose upper columns begin at one column. */
        private static int mostFolds(int free, int firstUpper) {
            return mostOfKind(free & INPUT_COLUMNS, firstUpper)
                + mostOfKind(free & OUTPUT_COLUMNS, firstUpper);
        }

        private static int mostOfKind(int free, int firstUpper) {
            int uppers = Integer.bitCount(free >> firstUpper);
            return Math.min(uppers, Integer.bitCount(free) / 2);
        }
    }
}
