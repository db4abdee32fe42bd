import java.util.ArrayDeque;
import java.util.ArrayList;
import java.util.Deque;
import java.util.List;
import java.util.Random;

// Long runs of calls against a model that follows the document's words one by
// one, without any short cut. The seeds are fixed, so each run is always the same.
public final class ModelTest {
    private static final int RUNS = 240;
    private static final int CALLS = 512;

    private record Term(int ones, int zeros, int outs) {
        boolean isTrue(int x) {
            return (x & ones) == ones && (x & zeros) == 0;
        }
    }

    private record Fold(int u, int v) {
    }

    private record Saved(int inputs, int outputs, List<Term> terms, List<Fold> folds) {
    }

    private static final class Model {
        int inputs = 4;
        int outputs = 2;
        List<Term> terms = new ArrayList<>();
        List<Fold> folds = new ArrayList<>();
        final Deque<Saved> saved = new ArrayDeque<>();
        final int[] errors = new int[7];
        private List<Fold> bestList;
        private String bestFor = "";

        int error(int code) {
            errors[-code]++;
            return code;
        }

        void save() {
            saved.addLast(new Saved(inputs, outputs, new ArrayList<>(terms), new ArrayList<>(folds)));
            if (saved.size() > 5) {
                saved.removeFirst();
            }
        }

        boolean noTerm(int t) {
            return t < 0 || t >= terms.size();
        }

        boolean noColumn(int c) {
            return !columns().contains(c);
        }

        List<Integer> columns() {
            List<Integer> all = new ArrayList<>();
            for (int k = 0; k < inputs; k++) {
                all.add(k);
            }
            for (int k = 0; k < outputs; k++) {
                all.add(6 + k);
            }
            return all;
        }

        int setSize(int in, int out) {
            if (in < 1 || in > 6 || out < 1 || out > 4) {
                return error(-2);
            }
            save();
            int before = terms.size();
            inputs = in;
            outputs = out;
            terms.clear();
            folds.clear();
            return before;
        }

        boolean setOf(int set, int size) {
            return set >= 0 && set < 1 << size;
        }

        int addTerm(int ones, int zeros, int outs) {
            if (!setOf(ones, inputs) || !setOf(zeros, inputs) || !setOf(outs, outputs)
                || (ones & zeros) != 0 || outs == 0) {
                return error(-2);
            }
            if (terms.size() == 10) {
                return error(-5);
            }
            save();
            terms.add(new Term(ones, zeros, outs));
            folds.clear();
            return terms.size() - 1;
        }

        int removeTerm(int t) {
            if (noTerm(t)) {
                return error(-2);
            }
            save();
            terms.remove(t);
            folds.clear();
            return terms.size();
        }

        int literals(int t) {
            return noTerm(t) ? error(-2)
                : Integer.bitCount(terms.get(t).ones) + Integer.bitCount(terms.get(t).zeros);
        }

        int word(List<Term> list, int x) {
            int word = 0;
            for (Term t : list) {
                if (t.isTrue(x)) {
                    word |= t.outs;
                }
            }
            return word;
        }

        int evaluate(int x) {
            return x < 0 || x > (1 << inputs) - 1 ? error(-2) : word(terms, x);
        }

        int onCount(int output) {
            if (output < 0 || output >= outputs) {
                return error(-2);
            }
            int n = 0;
            for (int x = 0; x < 1 << inputs; x++) {
                n += word(terms, x) >> output & 1;
            }
            return n;
        }

        boolean redundant(int t) {
            List<Term> without = new ArrayList<>(terms);
            without.remove(t);
            for (int x = 0; x < 1 << inputs; x++) {
                if (word(without, x) != word(terms, x)) {
                    return false;
                }
            }
            return true;
        }

        int isRedundant(int t) {
            return noTerm(t) ? error(-2) : redundant(t) ? 1 : 0;
        }

        int highestRedundant() {
            for (int t = terms.size() - 1; t >= 0; t--) {
                if (redundant(t)) {
                    return t;
                }
            }
            return -1;
        }

        int removeRedundant() {
            save();
            int removed = 0;
            for (int t = highestRedundant(); t >= 0; t = highestRedundant()) {
                terms.remove(t);
                folds.clear();
                removed++;
            }
            return removed;
        }

        boolean uses(int c, int t) {
            Term term = terms.get(t);
            return c < 6 ? ((term.ones | term.zeros) >> c & 1) == 1 : (term.outs >> c - 6 & 1) == 1;
        }

        int useSet(int c) {
            int set = 0;
            for (int t = 0; t < terms.size(); t++) {
                if (uses(c, t)) {
                    set |= 1 << t;
                }
            }
            return set;
        }

        int uses(int c) {
            return noColumn(c) ? error(-2) : useSet(c);
        }

        boolean pair(int u, int v) {
            return u != v && u / 6 == v / 6 && (useSet(u) & useSet(v)) == 0;
        }

        int canFold(int u, int v) {
            return noColumn(u) || noColumn(v) ? error(-2) : pair(u, v) ? 1 : 0;
        }

        Fold foldWith(int c) {
            for (Fold f : folds) {
                if (f.u == c || f.v == c) {
                    return f;
                }
            }
            return null;
        }

        boolean[][] direct(List<Fold> set) {
            int n = terms.size();
            boolean[][] d = new boolean[n][n];
            for (Fold f : set) {
                for (int a = 0; a < n; a++) {
                    for (int b = 0; b < n; b++) {
                        d[a][b] |= uses(f.u, a) && uses(f.v, b);
                    }
                }
            }
            return d;
        }

        List<Integer> order(List<Fold> set) {
            boolean[][] d = direct(set);
            List<Integer> rows = new ArrayList<>();
            boolean found = true;
            while (found) {
                found = false;
                for (int t = 0; t < terms.size() && !found; t++) {
                    if (!rows.contains(t) && isNext(d, rows, t)) {
                        rows.add(t);
                        found = true;
                    }
                }
            }
            return rows;
        }

        boolean isNext(boolean[][] d, List<Integer> rows, int t) {
            for (int a = 0; a < terms.size(); a++) {
                if (d[a][t] && !rows.contains(a)) {
                    return false;
                }
            }
            return true;
        }

        boolean feasible(List<Fold> set) {
            return order(set).size() == terms.size();
        }

        int fold(int u, int v) {
            if (noColumn(u) || noColumn(v)) {
                return error(-2);
            }
            if (!pair(u, v) || foldWith(u) != null || foldWith(v) != null) {
                return error(-3);
            }
            List<Fold> more = new ArrayList<>(folds);
            more.add(new Fold(u, v));
            if (!feasible(more)) {
                return error(-4);
            }
            save();
            folds = more;
            return folds.size();
        }

        int unfold(int c) {
            if (noColumn(c)) {
                return error(-2);
            }
            if (foldWith(c) == null) {
                return error(-3);
            }
            save();
            folds.remove(foldWith(c));
            return folds.size();
        }

        int mate(int c) {
            Fold f = foldWith(c);
            return f == null ? -1 : f.u == c ? f.v : f.u;
        }

        int partner(int c) {
            return noColumn(c) ? error(-2) : mate(c);
        }

        int termAt(int row) {
            return noTerm(row) ? error(-2) : order(folds).get(row);
        }

        int rowOf(int t) {
            return noTerm(t) ? error(-2) : order(folds).indexOf(t);
        }

        int mustPrecede(int a, int b) {
            if (noTerm(a) || noTerm(b)) {
                return error(-2);
            }
            boolean[][] d = direct(folds);
            boolean[] seen = new boolean[terms.size()];
            Deque<Integer> open = new ArrayDeque<>();
            open.add(a);
            while (!open.isEmpty()) {
                int t = open.remove();
                for (int next = 0; next < terms.size(); next++) {
                    if (d[t][next] && !seen[next]) {
                        seen[next] = true;
                        open.add(next);
                    }
                }
            }
            return seen[b] ? 1 : 0;
        }

        int area() {
            return terms.size() * (inputs + outputs - folds.size());
        }

        int spanNow(int c) {
            List<Integer> rows = order(folds);
            int first = -1;
            int last = -1;
            for (int row = 0; row < rows.size(); row++) {
                if (uses(c, rows.get(row))) {
                    first = first < 0 ? row : first;
                    last = row;
                }
            }
            return first < 0 ? 0 : last - first + 1;
        }

        int span(int c) {
            return noColumn(c) ? error(-2) : spanNow(c);
        }

        List<Fold> best() {
            String key = inputs + " " + outputs + " " + terms;
            if (!key.equals(bestFor)) {
                bestFor = key;
                bestList = new ArrayList<>();
                everySet(new ArrayList<>(), columns());
            }
            return bestList;
        }

        /** Every set of folds: the first free column stays alone or is folded, above or below another. */
        void everySet(List<Fold> set, List<Integer> free) {
            if (free.isEmpty()) {
                consider(set);
                return;
            }
            int c = free.get(0);
            List<Integer> rest = free.subList(1, free.size());
            everySet(set, rest);
            for (Integer other : rest) {
                if (pair(c, other)) {
                    List<Integer> left = new ArrayList<>(rest);
                    left.remove(other);
                    everySet(with(set, new Fold(c, other)), left);
                    everySet(with(set, new Fold(other, c)), left);
                }
            }
        }

        List<Fold> with(List<Fold> set, Fold f) {
            List<Fold> more = new ArrayList<>(set);
            more.add(f);
            return more;
        }

        void consider(List<Fold> set) {
            List<Fold> sorted = new ArrayList<>(set);
            sorted.sort((f, g) -> f.u - g.u);
            if (sorted.size() >= bestList.size() && comesFirst(sorted, bestList) && feasible(sorted)) {
                bestList = sorted;
            }
        }

        boolean comesFirst(List<Fold> a, List<Fold> b) {
            if (a.size() != b.size()) {
                return a.size() > b.size();
            }
            for (int i = 0; i < a.size(); i++) {
                if (a.get(i).u != b.get(i).u) {
                    return a.get(i).u < b.get(i).u;
                }
                if (a.get(i).v != b.get(i).v) {
                    return a.get(i).v < b.get(i).v;
                }
            }
            return false;
        }

        int bestUpper(int i) {
            return i < -1 ? error(-2) : i == -1 ? best().size() : i < best().size() ? best().get(i).u : -1;
        }

        int bestLower(int i) {
            return i < 0 ? error(-2) : i < best().size() ? best().get(i).v : -1;
        }

        int foldBest() {
            save();
            folds = new ArrayList<>(best());
            return area();
        }

        int undo() {
            if (saved.isEmpty()) {
                return error(-6);
            }
            Saved last = saved.removeLast();
            inputs = last.inputs;
            outputs = last.outputs;
            terms = new ArrayList<>(last.terms);
            folds = new ArrayList<>(last.folds);
            return saved.size();
        }

        int errorCount(int code) {
            return code < -6 || code > -2 ? error(-2) : errors[-code];
        }

        long digest() {
            List<Integer> v = new ArrayList<>();
            for (int code = 2; code <= 6; code++) {
                v.add(errors[code]);
            }
            v.addAll(List.of(inputs, outputs, terms.size()));
            for (int t = 0; t < terms.size(); t++) {
                Term term = terms.get(t);
                v.addAll(List.of(term.ones, term.zeros, term.outs, redundant(t) ? 1 : 0, order(folds).indexOf(t)));
            }
            for (int c : columns()) {
                v.addAll(List.of(useSet(c), mate(c), spanNow(c)));
            }
            v.add(area());
            v.add(best().size());
            for (Fold f : best()) {
                v.addAll(List.of(f.u, f.v));
            }
            v.add(saved.size());
            long h = 2713;
            for (int value : v) {
                h = 31 * h + value;
            }
            return h;
        }
    }

    private static int argument(Random r, int first, int past) {
        int[] far = {Integer.MIN_VALUE, Integer.MAX_VALUE, -1, past, first - 1, -7, 10, 64, 1 << 16};
        if (r.nextInt(16) == 0) {
            return far[r.nextInt(far.length)];
        }
        return first + r.nextInt(Math.max(1, past - first));
    }

    private static int column(Random r, Model m) {
        if (r.nextInt(12) == 0) {
            return argument(r, 0, 10);
        }
        List<Integer> columns = m.columns();
        return columns.get(r.nextInt(columns.size()));
    }

    /** A few members of a set, so that columns are left that use no term in common. */
    private static int sparse(Random r, int size, int oneIn) {
        int set = 0;
        for (int k = 0; k < size; k++) {
            if (r.nextInt(oneIn) == 0) {
                set |= 1 << k;
            }
        }
        return r.nextInt(40) == 0 ? argument(r, 0, 1 << size) : set;
    }

    private static void due(int run, String call, long got, long want) {
        Due.is("run " + run + ": " + call, got, want);
    }

    private static void addSome(int run, Random r, Model m, PlaFolder x) {
        int oneIn = 2 + run % 5;
        int ones = sparse(r, m.inputs, oneIn);
        int zeros = sparse(r, m.inputs, oneIn) & (r.nextInt(20) == 0 ? -1 : ~ones);
        int outs = r.nextInt(3) == 0 ? sparse(r, m.outputs, 2) : 1 << r.nextInt(m.outputs);
        due(run, "addTerm(" + ones + ", " + zeros + ", " + outs + ")",
            x.addTerm(ones, zeros, outs), m.addTerm(ones, zeros, outs));
    }

    private static void change(int run, Random r, Model m, PlaFolder x) {
        int kind = r.nextInt(40);
        int u = column(r, m);
        int v = column(r, m);
        int t = argument(r, 0, m.terms.size());
        if (kind < 10) {
            addSome(run, r, m, x);
        } else if (kind < 26) {
            due(run, "fold(" + u + ", " + v + ")", x.fold(u, v), m.fold(u, v));
        } else if (kind < 29) {
            due(run, "unfold(" + u + ")", x.unfold(u), m.unfold(u));
        } else if (kind < 31) {
            due(run, "removeTerm(" + t + ")", x.removeTerm(t), m.removeTerm(t));
        } else if (kind < 35) {
            due(run, "undo()", x.undo(), m.undo());
        } else if (kind < 37) {
            due(run, "foldBest()", x.foldBest(), m.foldBest());
        } else if (kind < 39) {
            due(run, "removeRedundant()", x.removeRedundant(), m.removeRedundant());
        } else if (r.nextInt(2) == 0) {
            int in = r.nextInt(3) == 0 ? argument(r, 1, 7) : 6 - r.nextInt(3);
            int out = argument(r, 1, 5);
            due(run, "setSize(" + in + ", " + out + ")", x.setSize(in, out), m.setSize(in, out));
        }
    }

    private static void askTerms(int run, Random r, Model m, PlaFolder x) {
        int a = argument(r, 0, m.terms.size());
        int b = argument(r, 0, m.terms.size());
        int word = argument(r, 0, 1 << m.inputs);
        int output = argument(r, 0, m.outputs);
        due(run, "terms()", x.terms(), m.terms.size());
        due(run, "literals(" + a + ")", x.literals(a), m.literals(a));
        due(run, "evaluate(" + word + ")", x.evaluate(word), m.evaluate(word));
        due(run, "onCount(" + output + ")", x.onCount(output), m.onCount(output));
        due(run, "isRedundant(" + a + ")", x.isRedundant(a), m.isRedundant(a));
        due(run, "termAt(" + a + ")", x.termAt(a), m.termAt(a));
        due(run, "rowOf(" + a + ")", x.rowOf(a), m.rowOf(a));
        due(run, "mustPrecede(" + a + ", " + b + ")", x.mustPrecede(a, b), m.mustPrecede(a, b));
    }

    private static void askColumns(int run, Random r, Model m, PlaFolder x) {
        int u = column(r, m);
        int v = column(r, m);
        int i = argument(r, -1, 6);
        int code = argument(r, -6, -1);
        due(run, "uses(" + u + ")", x.uses(u), m.uses(u));
        due(run, "canFold(" + u + ", " + v + ")", x.canFold(u, v), m.canFold(u, v));
        due(run, "partner(" + u + ")", x.partner(u), m.partner(u));
        due(run, "folds()", x.folds(), m.folds.size());
        due(run, "area()", x.area(), m.area());
        due(run, "span(" + u + ")", x.span(u), m.span(u));
        due(run, "bestUpper(" + i + ")", x.bestUpper(i), m.bestUpper(i));
        due(run, "bestLower(" + i + ")", x.bestLower(i), m.bestLower(i));
        due(run, "errorCount(" + code + ")", x.errorCount(code), m.errorCount(code));
        due(run, "digest()", x.digest(), m.digest());
    }

    private static void run(int run) {
        Random r = new Random(7919L * run + 1);
        Model m = new Model();
        PlaFolder x = new PlaFolder();
        due(run, "setSize", x.setSize(6 - run % 3, 4 - run % 2), m.setSize(6 - run % 3, 4 - run % 2));
        int calls = 1;
        while (calls + 20 < CALLS) {
            change(run, r, m, x);
            calls++;
            if (r.nextInt(8) == 0) {
                askTerms(run, r, m, x);
                askColumns(run, r, m, x);
                calls += 18;
            }
        }
        due(run, "digest() at the end", x.digest(), m.digest());
    }

    public static void main(String[] args) {
        for (int run = 0; run < RUNS; run++) {
            run(run);
        }
        Due.finish();
    }
}
