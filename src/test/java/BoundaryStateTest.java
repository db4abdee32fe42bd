import java.util.ArrayDeque;
import java.util.Deque;

// The boundary cases of promises 25 to 27, a test for each sentence that names one.
public final class BoundaryStateTest {
    private static void say(int promise, String words, Runnable test) {
        Sentence.holds("Promise " + promise, words, test);
    }

    // ---- 25: undo

    private static void mostRecentFirst() {
        PlaFolder x = new PlaFolder();
        x.addTerm(1, 0, 1);
        x.addTerm(2, 0, 1);
        x.fold(0, 1);
        x.setSize(6, 4);
        x.undo();
        Due.is("folds() before setSize", x.folds(), 1);
        Due.is("uses(5)", x.uses(5), -2);
        x.undo();
        Due.is("folds() before fold", x.folds(), 0);
        Due.is("terms() before fold", x.terms(), 2);
        x.undo();
        Due.is("terms() before the second term", x.terms(), 1);
        x.undo();
        Due.is("terms() before the first term", x.terms(), 0);
    }

    private static void savedStateIsRemoved() {
        PlaFolder x = new PlaFolder();
        x.addTerm(0, 0, 1);
        Due.is("undo()", x.undo(), 0);
        Due.is("undo() again: an undo saves nothing", x.undo(), -6);
        Due.is("terms()", x.terms(), 0);
        x.addTerm(1, 0, 1);
        x.addTerm(2, 0, 2);
        x.undo();
        x.addTerm(4, 0, 1);
        Due.is("undo() of the last", x.undo(), 1);
        Due.is("uses(2): the last is gone", x.uses(2), 0);
        Due.is("uses(1): what was undone stays so", x.uses(1), 0);
        Due.is("uses(0)", x.uses(0), 1);
    }

    private static void statesThatRemain() {
        for (int changes = 1; changes <= 12; changes++) {
            PlaFolder x = new PlaFolder();
            for (int k = 0; k < changes; k++) {
                x.setSize(1 + k % 6, 1 + k % 4);
            }
            for (int left = Math.min(changes, 5) - 1; left >= 0; left--) {
                Due.is("undo() after " + changes, x.undo(), left);
            }
            Due.is("undo() of none after " + changes, x.undo(), -6);
        }
    }

    // Changes and undos in turn, so that the oldest state is dropped many times, and states are saved after undos.
    private static void savedStatesTurn() {
        PlaFolder x = new PlaFolder();
        Deque<Integer> saved = new ArrayDeque<>();
        int now = size(4, 2);
        for (int round = 0; round < 15; round++) {
            for (int k = 0; k < 1 + round % 7; k++) {
                saved.addLast(now);
                int inputs = 1 + (round + k) % 6;
                int outputs = 1 + (round + k) % 4;
                x.setSize(inputs, outputs);
                now = size(inputs, outputs);
            }
            while (saved.size() > 5) {
                saved.removeFirst();
            }
            for (int k = 0; k < round % 4 && !saved.isEmpty(); k++) {
                now = saved.removeLast();
                Due.is("round " + round + ": undo()", x.undo(), saved.size());
                Due.is("round " + round + ": columns", columns(x), now);
            }
        }
    }

    /** The columns that exist, as a bit set. */
    private static int size(int inputs, int outputs) {
        return (1 << inputs) - 1 | (1 << outputs) - 1 << 6;
    }

    private static int columns(PlaFolder x) {
        int set = 0;
        for (int column = 0; column < 10; column++) {
            set |= x.uses(column) == -2 ? 0 : 1 << column;
        }
        return set;
    }

    private static void nothingSaved() {
        Twins.refused("undo() of a new object", Samples::fresh, PlaFolder::undo, -6);
        Twins.refused("undo() after five", BoundaryStateTest::allUndone, PlaFolder::undo, -6);
        PlaFolder x = new PlaFolder();
        for (int k = 1; k <= 5; k++) {
            Due.is("undo()", x.undo(), -6);
            Due.is("errorCount(-6)", x.errorCount(-6), k);
        }
        x.addTerm(0, 0, 1);
        Due.is("undo() once there is a state", x.undo(), 0);
    }

    private static PlaFolder allUndone() {
        PlaFolder x = Samples.fullAndFolded();
        for (int k = 0; k < 5; k++) {
            x.undo();
        }
        return x;
    }

    // ---- 26: errorCount

    private static void eachCounter() {
        PlaFolder x = new PlaFolder();
        for (int code = -6; code <= -2; code++) {
            Due.is("errorCount(" + code + ") of a new object", x.errorCount(code), 0);
        }
        for (int k = 0; k < 10; k++) {
            x.addTerm(0, 0, 1);
        }
        times(5, () -> x.addTerm(0, 0, 1));
        x.setSize(2, 2);
        x.addTerm(1, 0, 1);
        x.addTerm(2, 0, 2);
        x.fold(0, 1);
        times(4, () -> x.fold(7, 6));
        times(3, () -> x.unfold(6));
        times(2, () -> x.uses(2));
        times(5, x::undo);
        times(6, x::undo);
        for (int code = -6; code <= -2; code++) {
            Due.is("errorCount(" + code + ")", x.errorCount(code), -code);
        }
    }

    private static void times(int n, Runnable call) {
        for (int i = 0; i < n; i++) {
            call.run();
        }
    }

    private static void codesFromMinusSixToMinusTwo() {
        PlaFolder x = Samples.worked();
        int[] want = {1, 1, 1, 2, 1};
        for (int i = 0; i < 5; i++) {
            int code = i - 6;
            Twins.harmless("errorCount(" + code + ")", Samples::worked, y -> y.errorCount(code), want[i]);
        }
        Due.is("errorCount(-7)", x.errorCount(-7), -2);
        Due.is("errorCount(-1), NONE is no error code", x.errorCount(PlaFolder.NONE), -2);
        Due.is("errorCount(0)", x.errorCount(0), -2);
        Due.is("errorCount(2)", x.errorCount(2), -2);
    }

    private static void wrongCodesAreCounted() {
        int[] wrong = {-7, -1, 0, 1, 2, 6, Integer.MIN_VALUE, Integer.MAX_VALUE, Integer.MIN_VALUE + 2};
        PlaFolder x = new PlaFolder();
        for (int i = 0; i < wrong.length; i++) {
            Due.is("errorCount(" + wrong[i] + ")", x.errorCount(wrong[i]), -2);
            Due.is("errorCount(-2)", x.errorCount(-2), i + 1);
        }
        for (int code : wrong) {
            Twins.refused("errorCount(" + code + ")", Samples::worked, y -> y.errorCount(code), -2);
        }
    }

    private static void countersAreNotUndone() {
        PlaFolder x = new PlaFolder();
        x.addTerm(1, 0, 1);
        x.uses(9);
        x.unfold(0);
        x.undo();
        Due.is("errorCount(-2) after undo", x.errorCount(-2), 1);
        Due.is("errorCount(-3) after undo", x.errorCount(-3), 1);
        x.setSize(1, 1);
        Due.is("errorCount(-2) after setSize", x.errorCount(-2), 1);
        PlaFolder y = new PlaFolder();
        Due.is("errorCount(-2) of another object", y.errorCount(-2), 0);
    }

    // ---- 27: digest

    private static long hash(long... values) {
        long h = 2713;
        for (long v : values) {
            h = 31 * h + v;
        }
        return h;
    }

    private static void digestOfTheSmallest() {
        Due.is("digest()", Samples.sized(1, 1).digest(), hash(0, 0, 0, 0, 0, 1, 1, 0, 0, -1, 0, 0, -1, 0, 0, 0, 1));
        PlaFolder x = Samples.sized(1, 1);
        x.undo();
        x.setSize(1, 1);
        Due.is("digest() again", x.digest(), Samples.sized(1, 1).digest());
    }

    private static void digestHasTheCounters() {
        PlaFolder x = Samples.sized(1, 1);
        x.uses(1);
        Due.is("-2", x.digest(), hash(1, 0, 0, 0, 0, 1, 1, 0, 0, -1, 0, 0, -1, 0, 0, 0, 1));
        x.unfold(0);
        x.unfold(0);
        Due.is("-3", x.digest(), hash(1, 2, 0, 0, 0, 1, 1, 0, 0, -1, 0, 0, -1, 0, 0, 0, 1));
        x.undo();
        x.undo();
        x.undo();
        x.setSize(1, 1);
        Due.is("-6", x.digest(), hash(1, 2, 0, 0, 2, 1, 1, 0, 0, -1, 0, 0, -1, 0, 0, 0, 1));
        for (int k = 0; k < 14; k++) {
            x.addTerm(0, 0, 1);
        }
        x.setSize(1, 1);
        Due.is("-5", x.digest(), hash(1, 2, 0, 4, 2, 1, 1, 0, 0, -1, 0, 0, -1, 0, 0, 0, 5));
        x.setSize(2, 2);
        x.addTerm(1, 0, 1);
        x.addTerm(2, 0, 2);
        x.fold(0, 1);
        x.fold(7, 6);
        x.fold(7, 6);
        x.fold(7, 6);
        x.setSize(1, 1);
        Due.is("-4", x.digest(), hash(1, 2, 3, 4, 2, 1, 1, 0, 0, -1, 0, 0, -1, 0, 0, 0, 5));
    }

    private static void digestHasTheSize() {
        Due.is("size 2, 1", Samples.sized(2, 1).digest(),
            hash(0, 0, 0, 0, 0, 2, 1, 0, 0, -1, 0, 0, -1, 0, 0, -1, 0, 0, 1, 0, 1, 1));
        Due.is("size 1, 2", Samples.sized(1, 2).digest(),
            hash(0, 0, 0, 0, 0, 1, 2, 0, 0, -1, 0, 0, -1, 0, 0, -1, 0, 0, 1, 6, 7, 1));
    }

    private static void digestHasTheTerms() {
        PlaFolder x = Samples.sized(2, 1);
        x.addTerm(2, 1, 1);
        Due.is("ones 2 and zeros 1", x.digest(),
            hash(0, 0, 0, 0, 0, 2, 1, 1, 2, 1, 1, 0, 0, 1, -1, 1, 1, -1, 1, 1, -1, 1, 3, 0, 2));
        x.addTerm(2, 1, 1);
        Due.is("two alike", x.digest(),
            hash(0, 0, 0, 0, 0, 2, 1, 2, 2, 1, 1, 1, 0, 2, 1, 1, 1, 1, 3, -1, 2, 3, -1, 2, 3, -1, 2, 6, 0, 3));
    }

    private static void digestHasTheRows() {
        PlaFolder x = Samples.sized(2, 1);
        x.addTerm(1, 0, 1);
        x.addTerm(2, 0, 1);
        x.fold(1, 0);
        Due.is("term 1 above term 0", x.digest(), hash(0, 0, 0, 0, 0, 2, 1, 2,
            1, 0, 1, 0, 1, 2, 0, 1, 0, 0, 1, 1, 1, 2, 0, 1, 3, -1, 2, 4, 1, 0, 1, 4));
    }

    private static void digestHasColumnsThatExist() {
        PlaFolder x = Samples.sized(3, 2);
        x.addTerm(4, 0, 2);
        Due.is("columns 0, 1, 2, 6, 7", x.digest(), hash(0, 0, 0, 0, 0, 3, 2, 1, 4, 0, 2, 0, 0,
            0, -1, 0, 0, -1, 0, 1, -1, 1, 0, -1, 0, 1, -1, 1, 5, 2, 0, 1, 6, 7, 2));
        x.fold(7, 6);
        Due.is("columns 6 and 7 folded", x.digest(), hash(0, 0, 0, 0, 0, 3, 2, 1, 4, 0, 2, 0, 0,
            0, -1, 0, 0, -1, 0, 1, -1, 1, 0, 7, 0, 1, 6, 1, 4, 2, 0, 1, 6, 7, 3));
    }

    private static void digestHasTheArea() {
        PlaFolder x = Samples.sized(1, 1);
        x.addTerm(0, 0, 1);
        Due.is("one term of two columns", x.digest(),
            hash(0, 0, 0, 0, 0, 1, 1, 1, 0, 0, 1, 0, 0, 0, -1, 0, 1, -1, 1, 2, 0, 2));
        PlaFolder y = Samples.sized(2, 1);
        y.addTerm(0, 0, 1);
        y.fold(0, 1);
        Due.is("one term of two tracks", y.digest(),
            hash(0, 0, 0, 0, 0, 2, 1, 1, 0, 0, 1, 0, 0, 0, 1, 0, 0, 0, 0, 1, -1, 1, 2, 1, 0, 1, 3));
    }

    private static void digestHasTheBestFolding() {
        PlaFolder x = Samples.sized(2, 2);
        x.addTerm(3, 0, 3);
        Due.is("no fold", x.digest(), hash(0, 0, 0, 0, 0, 2, 2, 1, 3, 0, 3, 0, 0,
            1, -1, 1, 1, -1, 1, 1, -1, 1, 1, -1, 1, 4, 0, 2));
        PlaFolder y = Samples.sized(6, 4);
        Due.is("five folds", y.digest(), hash(0, 0, 0, 0, 0, 6, 4, 0,
            0, -1, 0, 0, -1, 0, 0, -1, 0, 0, -1, 0, 0, -1, 0, 0, -1, 0, 0, -1, 0, 0, -1, 0, 0, -1, 0, 0, -1, 0,
            0, 5, 0, 1, 2, 3, 4, 5, 6, 7, 8, 9, 1));
    }

    private static void digestHasTheSavedStates() {
        PlaFolder x = Samples.sized(1, 1);
        long first = x.digest();
        for (int saved = 2; saved <= 7; saved++) {
            x.setSize(1, 1);
            Due.is("digest() after " + saved, x.digest(), first - 1 + Math.min(saved, 5));
        }
        x.undo();
        Due.is("digest() after undo", x.digest(), first - 1 + 4);
    }

    /** The digest of ten terms and ten columns, from the answers of other methods. */
    private static long digestFromAnswers(PlaFolder x, int[][] sets, int saved) {
        long h = hash(x.errorCount(-2), x.errorCount(-3), x.errorCount(-4), x.errorCount(-5), x.errorCount(-6));
        h = more(h, 6, 4, sets.length);
        for (int t = 0; t < sets.length; t++) {
            h = more(h, sets[t][0], sets[t][1], sets[t][2], x.isRedundant(t), x.rowOf(t));
        }
        for (int c = 0; c < 10; c++) {
            h = more(h, x.uses(c), x.partner(c), x.span(c));
        }
        h = more(h, x.area(), x.bestUpper(-1));
        for (int i = 0; i < x.bestUpper(-1); i++) {
            h = more(h, x.bestUpper(i), x.bestLower(i));
        }
        return more(h, saved);
    }

    private static long more(long start, long... values) {
        long h = start;
        for (long v : values) {
            h = 31 * h + v;
        }
        return h;
    }

    private static void digestOfTheLargest() {
        int[][] sets = new int[10][];
        for (int k = 0; k < 10; k++) {
            sets[k] = new int[] {k, Samples.zerosOfFull(k), 1 + k};
        }
        PlaFolder x = Samples.full();
        Due.is("digest() of ten terms", x.digest(), digestFromAnswers(x, sets, 5));
        for (int k = 0; k < 10; k++) {
            sets[k] = new int[] {k < 6 ? 1 << k : 0, 0, 1};
        }
        PlaFolder y = Samples.fullAndFolded();
        Due.is("digest() of ten terms and five folds", y.digest(), digestFromAnswers(y, sets, 5));
    }

    private static void digestChangesNothing() {
        PlaFolder x = Samples.worked();
        long first = x.digest();
        Due.is("digest() again", x.digest(), first);
        Twins.harmless("digest()", Samples::worked, y -> y.digest() == first ? 1 : 0, 1);
        Twins.harmless("digest() of a new object", Samples::fresh, y -> y.digest() == 0 ? 1 : 0, 0);
        Due.is("digest() of a twin", Samples.worked().digest(), first);
    }

    private static void p25AndP26() {
        say(25, "Restores the most recently saved state", BoundaryStateTest::mostRecentFirst);
        say(25, "removes it from the saved states", BoundaryStateTest::savedStateIsRemoved);
        say(25, "Returns the number of saved states that remain", BoundaryStateTest::statesThatRemain);
        say(25, "the most recently saved state and removes it", BoundaryStateTest::savedStatesTurn);
        say(25, "NOTHING_SAVED if there is none", BoundaryStateTest::nothingSaved);
        say(26, "Returns the counter of the code", BoundaryStateTest::eachCounter);
        say(26, "`code`: an error code, -6 to -2", BoundaryStateTest::codesFromMinusSixToMinusTwo);
        say(26, "OUT_OF_RANGE if code is out of range (this increments the counter of OUT_OF_RANGE)",
            BoundaryStateTest::wrongCodesAreCounted);
        say(26, "how often an error code has been returned", BoundaryStateTest::countersAreNotUndone);
    }

    private static void p27() {
        say(27, "Start with h = 2713", BoundaryStateTest::digestOfTheSmallest);
        say(27, "the counters of the codes -2, -3, -4, -5, -6", BoundaryStateTest::digestHasTheCounters);
        say(27, "the number of inputs, the number of outputs", BoundaryStateTest::digestHasTheSize);
        say(27, "its two sets of inputs (ones, then zeros), its set of outputs, 1 or 0 for whether it is redundant",
            BoundaryStateTest::digestHasTheTerms);
        say(27, "and its row", BoundaryStateTest::digestHasTheRows);
        say(27, "for each column that exists, in ascending order, the terms that it uses, its partner"
            + " (NONE if it belongs to no fold), and its span", BoundaryStateTest::digestHasColumnsThatExist);
        say(27, "the area", BoundaryStateTest::digestHasTheArea);
        say(27, "the number of folds of the best folding and, for each of them, its upper and its lower column",
            BoundaryStateTest::digestHasTheBestFolding);
        say(27, "the number of saved states", BoundaryStateTest::digestHasTheSavedStates);
        say(27, "with the overflow of long arithmetic ignored", BoundaryStateTest::digestOfTheLargest);
        say(27, "Returns a hash of the state.", BoundaryStateTest::digestChangesNothing);
    }

    public static void main(String[] args) {
        p25AndP26();
        p27();
        Due.finish();
    }
}
