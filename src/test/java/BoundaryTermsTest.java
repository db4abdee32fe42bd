// The boundary cases of promises 1 to 10, a test for each sentence that names one.
public final class BoundaryTermsTest {
    private static final int[] FAR = Samples.FAR;

    private static void say(int promise, String words, Runnable test) {
        Sentence.holds("Promise " + promise, words, test);
    }

    // ---- 1: a new object

    private static void newInputs() {
        PlaFolder x = new PlaFolder();
        Due.is("evaluate(15)", x.evaluate(15), 0);
        Due.is("evaluate(16)", x.evaluate(16), -2);
        Due.is("uses(3)", x.uses(3), 0);
        Due.is("uses(4)", x.uses(4), -2);
        Due.is("uses(5)", x.uses(5), -2);
        Due.is("addTerm(16, 0, 1)", x.addTerm(16, 0, 1), -2);
        Due.is("addTerm(8, 0, 1)", x.addTerm(8, 0, 1), 0);
    }

    private static void newOutputs() {
        PlaFolder x = new PlaFolder();
        Due.is("onCount(1)", x.onCount(1), 0);
        Due.is("onCount(2)", x.onCount(2), -2);
        Due.is("uses(7)", x.uses(7), 0);
        Due.is("uses(8)", x.uses(8), -2);
        Due.is("addTerm(0, 0, 4)", x.addTerm(0, 0, 4), -2);
        Due.is("addTerm(0, 0, 2)", x.addTerm(0, 0, 2), 0);
    }

    private static void newHasNoTerms() {
        PlaFolder x = new PlaFolder();
        Due.is("terms()", x.terms(), 0);
        Due.is("area()", x.area(), 0);
        Due.is("folds()", x.folds(), 0);
        Due.is("undo()", x.undo(), -6);
        Due.is("termAt(0)", x.termAt(0), -2);
        Due.is("rowOf(0)", x.rowOf(0), -2);
        PlaFolder y = new PlaFolder();
        for (int code = -6; code <= -2; code++) {
            Due.is("errorCount(" + code + ")", y.errorCount(code), 0);
        }
    }

    // ---- 2: setSize

    private static void everySize() {
        for (int inputs = 1; inputs <= 6; inputs++) {
            for (int outputs = 1; outputs <= 4; outputs++) {
                String size = "size " + inputs + ", " + outputs + ": ";
                PlaFolder x = new PlaFolder();
                Due.is(size + "setSize", x.setSize(inputs, outputs), 0);
                for (int column = 0; column < 10; column++) {
                    boolean exists = column < 6 ? column < inputs : column - 6 < outputs;
                    Due.is(size + "uses(" + column + ")", x.uses(column), exists ? 0 : -2);
                }
                Due.is(size + "the last word", x.evaluate((1 << inputs) - 1), 0);
                Due.is(size + "past the last word", x.evaluate(1 << inputs), -2);
                Due.is(size + "the last output", x.onCount(outputs - 1), 0);
                Due.is(size + "past the last output", x.onCount(outputs), -2);
            }
        }
    }

    private static void bestFoldingOfEachSize() {
        PlaFolder x = new PlaFolder();
        Due.is("bestUpper(-1) of a new object", x.bestUpper(-1), 3);
        for (int inputs = 1; inputs <= 6; inputs++) {
            for (int outputs = 1; outputs <= 4; outputs++) {
                x.setSize(inputs, outputs);
                Due.is("bestUpper(-1) of " + inputs + ", " + outputs, x.bestUpper(-1), inputs / 2 + outputs / 2);
            }
        }
    }

    private static void sizeRemovesTermsAndFolds() {
        PlaFolder x = Samples.fullAndFolded();
        Due.is("folds()", x.folds(), 5);
        Due.is("setSize(6, 4), as it was", x.setSize(6, 4), 10);
        Due.is("terms()", x.terms(), 0);
        Due.is("folds()", x.folds(), 0);
        for (int column = 0; column < 10; column++) {
            Due.is("uses(" + column + ")", x.uses(column), 0);
            Due.is("partner(" + column + ")", x.partner(column), -1);
            Due.is("span(" + column + ")", x.span(column), 0);
        }
        Due.is("evaluate(63)", x.evaluate(63), 0);
        Due.is("termAt(0)", x.termAt(0), -2);
        x.addTerm(1, 0, 1);
        Due.is("mustPrecede(0, 0)", x.mustPrecede(0, 0), 0);
        x.addTerm(2, 0, 1);
        Due.is("mustPrecede(1, 0)", x.mustPrecede(1, 0), 0);
    }

    private static void sizeIsUndone() {
        Twins.undoable("setSize(1, 1) of a new object", Samples::fresh, x -> x.setSize(1, 1), 0);
        Twins.undoable("setSize(4, 2) of a new object", Samples::fresh, x -> x.setSize(4, 2), 0);
        Twins.undoable("setSize(1, 1) of a full one", Samples::fullAndFolded, x -> x.setSize(1, 1), 10);
        Twins.undoable("setSize(6, 4) of a full one", Samples::fullAndFolded, x -> x.setSize(6, 4), 10);
        Twins.undoable("setSize(6, 4) of the smallest", () -> Samples.sized(1, 1), x -> x.setSize(6, 4), 0);
    }

    private static void inputsOneToSix() {
        PlaFolder x = new PlaFolder();
        Due.is("setSize(0, 1)", x.setSize(0, 1), -2);
        Due.is("setSize(1, 1)", x.setSize(1, 1), 0);
        Due.is("setSize(6, 1)", x.setSize(6, 1), 0);
        Due.is("setSize(7, 1)", x.setSize(7, 1), -2);
        Due.is("setSize(-1, 1)", x.setSize(-1, 1), -2);
        for (int far : FAR) {
            Due.is("setSize(" + far + ", 1)", x.setSize(far, 1), -2);
        }
    }

    private static void outputsOneToFour() {
        PlaFolder x = new PlaFolder();
        Due.is("setSize(1, 0)", x.setSize(1, 0), -2);
        Due.is("setSize(1, 1)", x.setSize(1, 1), 0);
        Due.is("setSize(1, 4)", x.setSize(1, 4), 0);
        Due.is("setSize(1, 5)", x.setSize(1, 5), -2);
        Due.is("setSize(1, -1)", x.setSize(1, -1), -2);
        for (int far : FAR) {
            Due.is("setSize(1, " + far + ")", x.setSize(1, far), -2);
        }
    }

    private static void previousNumberOfTerms() {
        for (int terms = 0; terms <= 10; terms++) {
            PlaFolder x = new PlaFolder();
            for (int k = 0; k < terms; k++) {
                x.addTerm(0, 0, 1);
            }
            Due.is("setSize(2, 2) of " + terms, x.setSize(2, 2), terms);
            Due.is("setSize(2, 2) again", x.setSize(2, 2), 0);
        }
    }

    private static void sizeRefused() {
        int[][] wrong = {{0, 1}, {7, 4}, {1, 0}, {6, 5}, {0, 0}, {7, 5}, {0, 5}, {7, 0}, {-4, 2}, {4, -2}};
        for (int[] w : wrong) {
            Twins.refused("setSize(" + w[0] + ", " + w[1] + ")", Samples::worked, x -> x.setSize(w[0], w[1]), -2);
        }
    }

    // ---- 3: addTerm

    private static void addingRemovesFolds() {
        PlaFolder x = Samples.sized(6, 4);
        x.foldBest();
        Due.is("folds()", x.folds(), 5);
        Due.is("addTerm(0, 0, 1), the first", x.addTerm(0, 0, 1), 0);
        Due.is("folds()", x.folds(), 0);
        for (int k = 1; k < 9; k++) {
            x.addTerm(0, 0, 1);
        }
        x.foldBest();
        Due.is("folds()", x.folds(), 5);
        Due.is("addTerm(0, 0, 1), the tenth", x.addTerm(0, 0, 1), 9);
        Due.is("folds()", x.folds(), 0);
        Due.is("partner(0)", x.partner(0), -1);
        Due.is("addTerm with no folds to remove: terms()", x.terms(), 10);
    }

    private static PlaFolder nineAndFolded() {
        PlaFolder x = Samples.fullAndFolded();
        x.removeTerm(9);
        x.fold(2, 0);
        return x;
    }

    private static void addingIsUndone() {
        Twins.undoable("addTerm, the first", Samples::fresh, x -> x.addTerm(1, 2, 1), 0);
        Twins.undoable("addTerm, the tenth", BoundaryTermsTest::nineAndFolded, x -> x.addTerm(63, 0, 15), 9);
        Twins.undoable("addTerm with folds", Samples::worked, x -> x.addTerm(0, 31, 7), 4);
    }

    private static void numberOfTheNewTerm() {
        PlaFolder x = new PlaFolder();
        for (int k = 0; k < 10; k++) {
            Due.is("addTerm", x.addTerm(0, 0, 1), k);
        }
        x.removeTerm(0);
        Due.is("addTerm after a removal", x.addTerm(0, 0, 1), 9);
        x.setSize(1, 1);
        Due.is("addTerm after setSize", x.addTerm(0, 0, 1), 0);
    }

    private static void inputsThatDoNotExist() {
        for (int inputs = 1; inputs <= 6; inputs++) {
            PlaFolder x = Samples.sized(inputs, 1);
            int last = 1 << inputs - 1;
            Due.is(inputs + " inputs: the last in ones", x.addTerm(last, 0, 1), 0);
            Due.is(inputs + " inputs: the last in zeros", x.addTerm(0, last, 1), 1);
            Due.is(inputs + " inputs: all in ones", x.addTerm(2 * last - 1, 0, 1), 2);
            Due.is(inputs + " inputs: all in zeros", x.addTerm(0, 2 * last - 1, 1), 3);
            for (int k = inputs; k < 32; k++) {
                Due.is(inputs + " inputs: input " + k + " in ones", x.addTerm(1 << k, 0, 1), -2);
                Due.is(inputs + " inputs: input " + k + " in zeros", x.addTerm(0, 1 << k, 1), -2);
                Due.is(inputs + " inputs: input " + k + " in ones too", x.addTerm(last | 1 << k, 0, 1), -2);
            }
            Due.is(inputs + " inputs: terms()", x.terms(), 4);
        }
    }

    private static void outputsThatDoNotExist() {
        for (int outputs = 1; outputs <= 4; outputs++) {
            PlaFolder x = Samples.sized(1, outputs);
            int last = 1 << outputs - 1;
            Due.is(outputs + " outputs: the last", x.addTerm(0, 0, last), 0);
            Due.is(outputs + " outputs: all", x.addTerm(0, 0, 2 * last - 1), 1);
            for (int k = outputs; k < 32; k++) {
                Due.is(outputs + " outputs: output " + k, x.addTerm(0, 0, 1 << k), -2);
                Due.is(outputs + " outputs: output " + k + " too", x.addTerm(0, 0, last | 1 << k), -2);
            }
            Due.is(outputs + " outputs: terms()", x.terms(), 2);
        }
    }

    private static void negativeSets() {
        int[] negative = {-1, -2, -16, Integer.MIN_VALUE, Integer.MIN_VALUE + 1};
        for (int set : negative) {
            Twins.refused("addTerm(" + set + ", 0, 1)", Samples::worked, x -> x.addTerm(set, 0, 1), -2);
            Twins.refused("addTerm(0, " + set + ", 1)", Samples::worked, x -> x.addTerm(0, set, 1), -2);
            Twins.refused("addTerm(0, 0, " + set + ")", Samples::worked, x -> x.addTerm(0, 0, set), -2);
        }
    }

    private static void notDisjoint() {
        PlaFolder x = Samples.sized(6, 1);
        for (int k = 0; k < 6; k++) {
            Due.is("input " + k + " in both", x.addTerm(1 << k, 1 << k, 1), -2);
            Due.is("input " + k + " and all", x.addTerm(1 << k, 63, 1), -2);
            Due.is("all and input " + k, x.addTerm(63, 1 << k, 1), -2);
        }
        Due.is("addTerm(21, 42, 1)", x.addTerm(21, 42, 1), 0);
        Twins.refused("addTerm(3, 6, 1)", Samples::worked, y -> y.addTerm(3, 6, 1), -2);
    }

    private static void noOutputs() {
        PlaFolder x = Samples.sized(6, 4);
        Due.is("addTerm(0, 0, 0)", x.addTerm(0, 0, 0), -2);
        Due.is("addTerm(63, 0, 0)", x.addTerm(63, 0, 0), -2);
        Due.is("addTerm(0, 0, 1)", x.addTerm(0, 0, 1), 0);
        Twins.refused("addTerm(1, 2, 0)", Samples::worked, y -> y.addTerm(1, 2, 0), -2);
    }

    private static void tenTerms() {
        PlaFolder x = nineAndFolded();
        Due.is("the tenth", x.addTerm(0, 0, 1), 9);
        Due.is("the eleventh", x.addTerm(0, 0, 1), -5);
        Due.is("the eleventh again", x.addTerm(63, 0, 15), -5);
        Due.is("errorCount(-5)", x.errorCount(-5), 2);
        x.undo();
        Due.is("room after undo", x.addTerm(0, 0, 1), 9);
        x.removeTerm(4);
        Due.is("room after removeTerm", x.addTerm(0, 0, 1), 9);
        Due.is("full again", x.addTerm(0, 0, 1), -5);
        x.setSize(6, 4);
        Due.is("room after setSize", x.addTerm(0, 0, 1), 0);
        Twins.refused("addTerm(0, 0, 1)", Samples::fullAndFolded, y -> y.addTerm(0, 0, 1), -5);
    }

    private static void rangeBeforeFull() {
        int[][] wrong = {{64, 0, 1}, {0, 64, 1}, {0, 0, 16}, {1, 1, 1}, {1, 0, 0}, {-1, 0, 1}};
        for (int[] w : wrong) {
            Twins.refused("addTerm(" + w[0] + ", " + w[1] + ", " + w[2] + ") of a full one", Samples::fullAndFolded,
                x -> x.addTerm(w[0], w[1], w[2]), -2);
        }
    }

    // ---- 4: removeTerm

    private static void removingRemovesFolds() {
        for (int term = 0; term < 10; term++) {
            PlaFolder x = Samples.fullAndFolded();
            Due.is("removeTerm(" + term + ")", x.removeTerm(term), 9);
            Due.is("removeTerm(" + term + "): terms()", x.terms(), 9);
            Due.is("removeTerm(" + term + "): folds()", x.folds(), 0);
            for (int column = 0; column < 10; column++) {
                Due.is("removeTerm(" + term + "): partner(" + column + ")", x.partner(column), -1);
            }
            for (int row = 0; row < 9; row++) {
                Due.is("removeTerm(" + term + "): termAt(" + row + ")", x.termAt(row), row);
            }
        }
    }

    private static void higherTermsMoveDown() {
        for (int term = 0; term < 10; term++) {
            PlaFolder x = Samples.full();
            x.removeTerm(term);
            PlaFolder y = Samples.sized(6, 4);
            for (int k = 0; k < 10; k++) {
                if (k != term) {
                    Samples.addOfFull(y, k);
                }
            }
            Sight.same("removeTerm(" + term + ")", new Sight(x), new Sight(y));
        }
    }

    private static void removingIsUndone() {
        Twins.undoable("removeTerm(0)", Samples::fullAndFolded, x -> x.removeTerm(0), 9);
        Twins.undoable("removeTerm(0) without folds", Samples::full, x -> x.removeTerm(0), 9);
        Twins.undoable("removeTerm(9)", Samples::fullAndFolded, x -> x.removeTerm(9), 9);
        Twins.undoable("removeTerm(3)", Samples::worked, x -> x.removeTerm(3), 3);
        Twins.undoable("removeTerm(0), the only one", BoundaryTermsTest::oneTerm, x -> x.removeTerm(0), 0);
    }

    private static PlaFolder oneTerm() {
        PlaFolder x = new PlaFolder();
        x.addTerm(1, 2, 3);
        return x;
    }

    private static void termsThatRemain() {
        PlaFolder first = Samples.full();
        PlaFolder last = Samples.full();
        for (int left = 9; left >= 0; left--) {
            Due.is("removeTerm(0)", first.removeTerm(0), left);
            Due.is("removeTerm(" + left + ")", last.removeTerm(left), left);
        }
    }

    private static void noSuchTermToRemove() {
        int[] wrong = {-1, 4, 5, 9, 10, Integer.MIN_VALUE, Integer.MAX_VALUE};
        for (int term : wrong) {
            Twins.refused("removeTerm(" + term + ")", Samples::worked, x -> x.removeTerm(term), -2);
        }
        Twins.refused("removeTerm(0) of no term", Samples::fresh, x -> x.removeTerm(0), -2);
        Twins.refused("removeTerm(10) of ten", Samples::full, x -> x.removeTerm(10), -2);
    }

    // ---- 5: terms

    private static void zeroToTen() {
        PlaFolder x = new PlaFolder();
        for (int k = 0; k < 10; k++) {
            Due.is("terms()", x.terms(), k);
            x.addTerm(0, 0, 1);
        }
        Due.is("terms()", x.terms(), 10);
        x.addTerm(0, 0, 1);
        Due.is("terms() after FULL", x.terms(), 10);
        for (int left = 9; left >= 0; left--) {
            x.removeTerm(left);
            Due.is("terms()", x.terms(), left);
        }
        x.removeTerm(0);
        Due.is("terms() after a refused removal", x.terms(), 0);
    }

    // ---- 6: literals

    private static void literalsNoneToAll() {
        PlaFolder x = Samples.sized(6, 1);
        x.addTerm(0, 0, 1);
        x.addTerm(63, 0, 1);
        x.addTerm(0, 63, 1);
        x.addTerm(21, 42, 1);
        x.addTerm(32, 0, 1);
        x.addTerm(0, 1, 1);
        int[] want = {0, 6, 6, 6, 1, 1};
        for (int term = 0; term < want.length; term++) {
            Due.is("literals(" + term + ")", x.literals(term), want[term]);
        }
        PlaFolder y = Samples.sized(1, 1);
        y.addTerm(1, 0, 1);
        Due.is("literals(0) of one input", y.literals(0), 1);
    }

    // ---- 7: evaluate

    private static void firstAndLastWord() {
        for (int inputs = 1; inputs <= 6; inputs++) {
            PlaFolder x = Samples.sized(inputs, 2);
            int last = (1 << inputs) - 1;
            x.addTerm(0, last, 1);
            x.addTerm(last, 0, 2);
            Due.is(inputs + " inputs: evaluate(0)", x.evaluate(0), 1);
            Due.is(inputs + " inputs: evaluate(" + last + ")", x.evaluate(last), 2);
            for (int word = 1; word < last; word++) {
                Due.is(inputs + " inputs: evaluate(" + word + ")", x.evaluate(word), 0);
            }
        }
    }

    private static void outputWordNoneToAll() {
        PlaFolder x = Samples.sized(6, 4);
        Due.is("evaluate(63) of no term", x.evaluate(63), 0);
        x.addTerm(32, 0, 15);
        Due.is("evaluate(31)", x.evaluate(31), 0);
        Due.is("evaluate(32)", x.evaluate(32), 15);
        x.addTerm(0, 32, 8);
        Due.is("evaluate(31)", x.evaluate(31), 8);
    }

    private static void wordsOutOfRange() {
        for (int inputs = 1; inputs <= 6; inputs++) {
            PlaFolder x = Samples.sized(inputs, 1);
            x.addTerm(0, 0, 1);
            Due.is(inputs + " inputs: one too many", x.evaluate(1 << inputs), -2);
            Due.is(inputs + " inputs: evaluate(-1)", x.evaluate(-1), -2);
            Due.is(inputs + " inputs: evaluate(64)", x.evaluate(64), -2);
            for (int far : FAR) {
                Due.is(inputs + " inputs: evaluate(" + far + ")", x.evaluate(far), -2);
            }
            Due.is(inputs + " inputs: errorCount(-2)", x.errorCount(-2), 3 + FAR.length);
        }
        Twins.refused("evaluate(32)", Samples::worked, x -> x.evaluate(32), -2);
        Twins.refused("evaluate(-1)", Samples::worked, x -> x.evaluate(-1), -2);
    }

    // ---- 8: onCount

    private static void noWordToAllWords() {
        for (int inputs = 1; inputs <= 6; inputs++) {
            PlaFolder x = Samples.sized(inputs, 4);
            int all = (1 << inputs) - 1;
            x.addTerm(0, 0, 1);
            x.addTerm(all, 0, 2);
            x.addTerm(1, 0, 4);
            x.addTerm(0, 1, 4);
            Due.is(inputs + " inputs: all words", x.onCount(0), 1 << inputs);
            Due.is(inputs + " inputs: one word", x.onCount(1), 1);
            Due.is(inputs + " inputs: two halves", x.onCount(2), 1 << inputs);
            Due.is(inputs + " inputs: no word", x.onCount(3), 0);
        }
    }

    private static void noSuchOutput() {
        for (int outputs = 1; outputs <= 4; outputs++) {
            PlaFolder x = Samples.sized(6, outputs);
            x.addTerm(0, 0, (1 << outputs) - 1);
            Due.is(outputs + " outputs: the last", x.onCount(outputs - 1), 64);
            Due.is(outputs + " outputs: one past it", x.onCount(outputs), -2);
            Due.is(outputs + " outputs: onCount(-1)", x.onCount(-1), -2);
            Due.is(outputs + " outputs: onCount(6), a column's number", x.onCount(6), -2);
            for (int far : FAR) {
                Due.is(outputs + " outputs: onCount(" + far + ")", x.onCount(far), -2);
            }
            Due.is(outputs + " outputs: errorCount(-2)", x.errorCount(-2), 3 + FAR.length);
        }
        Twins.refused("onCount(3)", Samples::worked, x -> x.onCount(3), -2);
        Twins.refused("onCount(-1)", Samples::worked, x -> x.onCount(-1), -2);
    }

    // ---- 9: isRedundant

    private static void redundantOrNot() {
        PlaFolder x = Samples.sized(6, 4);
        x.addTerm(63, 0, 8);
        Due.is("a term alone", x.isRedundant(0), 0);
        x.addTerm(63, 0, 8);
        Due.is("one of two alike", x.isRedundant(0), 1);
        Due.is("the other one", x.isRedundant(1), 1);
        x.addTerm(63, 0, 4);
        Due.is("alike but for the output", x.isRedundant(2), 0);
        x.addTerm(63, 0, 12);
        Due.is("covered for both outputs", x.isRedundant(3), 1);
    }

    // ---- 10: removeRedundant

    private static void highestFirst() {
        PlaFolder x = Samples.sized(6, 1);
        for (int k = 0; k < 10; k++) {
            x.addTerm(1, 0, 1);
        }
        Due.is("ten alike", x.removeRedundant(), 9);
        Due.is("terms()", x.terms(), 1);
        // All four are redundant at first: term 3 goes, then term 2 is needed, and term 1 goes.
        PlaFolder y = Samples.sized(2, 1);
        y.addTerm(0, 2, 1);
        y.addTerm(1, 0, 1);
        y.addTerm(2, 0, 1);
        y.addTerm(0, 1, 1);
        Due.is("four that cover one another", y.removeRedundant(), 2);
        Due.is("uses(0)", y.uses(0), 0);
        Due.is("uses(1)", y.uses(1), 3);
        PlaFolder z = Samples.sized(2, 1);
        z.addTerm(3, 0, 1);
        z.addTerm(1, 0, 1);
        Due.is("term 0 alone", z.removeRedundant(), 1);
        Due.is("uses(1)", z.uses(1), 0);
    }

    private static void foldsGoIfATermGoes() {
        PlaFolder x = Samples.worked();
        Due.is("folds()", x.folds(), 3);
        Due.is("removeRedundant()", x.removeRedundant(), 1);
        Due.is("folds()", x.folds(), 0);
        Due.is("mustPrecede(1, 0)", x.mustPrecede(1, 0), 0);
        x.fold(1, 0);
        Due.is("removeRedundant() of none", x.removeRedundant(), 0);
        Due.is("folds()", x.folds(), 1);
        Due.is("partner(1)", x.partner(1), 0);
        Due.is("termAt(0)", x.termAt(0), 1);
        PlaFolder y = new PlaFolder();
        y.fold(3, 2);
        Due.is("removeRedundant() of no term", y.removeRedundant(), 0);
        Due.is("folds()", y.folds(), 1);
    }

    private static void removeRedundantIsUndone() {
        Twins.undoable("removeRedundant()", Samples::worked, PlaFolder::removeRedundant, 1);
        Twins.undoable("removeRedundant() of no term", Samples::fresh, PlaFolder::removeRedundant, 0);
        Twins.undoable("removeRedundant() of none", Samples::chain, PlaFolder::removeRedundant, 0);
        Twins.undoable("removeRedundant() of ten", BoundaryTermsTest::tenAlike, PlaFolder::removeRedundant, 9);
    }

    private static PlaFolder tenAlike() {
        PlaFolder x = new PlaFolder();
        for (int k = 0; k < 10; k++) {
            x.addTerm(1, 0, 1);
        }
        x.fold(1, 0);
        return x;
    }

    private static void numberRemoved() {
        for (int alike = 1; alike <= 10; alike++) {
            PlaFolder x = new PlaFolder();
            for (int k = 0; k < alike; k++) {
                x.addTerm(0, 15, 3);
            }
            Due.is("removeRedundant() of " + alike + " alike", x.removeRedundant(), alike - 1);
            Due.is("terms()", x.terms(), 1);
            Due.is("removeRedundant() again", x.removeRedundant(), 0);
        }
        Due.is("removeRedundant() of no term", new PlaFolder().removeRedundant(), 0);
    }

    private static void p1ToP4() {
        say(1, "4 inputs", BoundaryTermsTest::newInputs);
        say(1, "2 outputs", BoundaryTermsTest::newOutputs);
        say(1, "no terms", BoundaryTermsTest::newHasNoTerms);
        say(2, "Sets the size", BoundaryTermsTest::everySize);
        say(2, "the size and removes", BoundaryTermsTest::bestFoldingOfEachSize);
        say(2, "removes all terms and folds", BoundaryTermsTest::sizeRemovesTermsAndFolds);
        say(2, "Undoable.", BoundaryTermsTest::sizeIsUndone);
        say(2, "`inputs`: 1 to 6", BoundaryTermsTest::inputsOneToSix);
        say(2, "`outputs`: 1 to 4", BoundaryTermsTest::outputsOneToFour);
        say(2, "Returns the previous number of terms", BoundaryTermsTest::previousNumberOfTerms);
        say(2, "OUT_OF_RANGE if an argument is out of range", BoundaryTermsTest::sizeRefused);
        say(3, "Adds a term and removes all folds.", BoundaryTermsTest::addingRemovesFolds);
        say(3, "Undoable.", BoundaryTermsTest::addingIsUndone);
        say(3, "Returns the number of the term", BoundaryTermsTest::numberOfTheNewTerm);
        say(3, "a set contains an input or output that does not exist", BoundaryTermsTest::inputsThatDoNotExist);
        say(3, "or output that does not exist", BoundaryTermsTest::outputsThatDoNotExist);
        say(3, "OUT_OF_RANGE if a set contains an input", BoundaryTermsTest::negativeSets);
        say(3, "ones and zeros are not disjoint", BoundaryTermsTest::notDisjoint);
        say(3, "outputs is empty", BoundaryTermsTest::noOutputs);
        say(3, "FULL if there are 10 terms", BoundaryTermsTest::tenTerms);
        say(3, "or outputs is empty; FULL if", BoundaryTermsTest::rangeBeforeFull);
        say(4, "Removes a term and all folds.", BoundaryTermsTest::removingRemovesFolds);
        say(4, "The terms with higher numbers move down by one.", BoundaryTermsTest::higherTermsMoveDown);
        say(4, "Undoable.", BoundaryTermsTest::removingIsUndone);
        say(4, "Returns the number of terms that remain", BoundaryTermsTest::termsThatRemain);
        say(4, "OUT_OF_RANGE if there is no such term", BoundaryTermsTest::noSuchTermToRemove);
    }

    private static void p5ToP10() {
        say(5, "Returns the number of terms, 0 to 10.", BoundaryTermsTest::zeroToTen);
        say(6, "Returns the number of inputs of which the term demands 1 or 0", BoundaryTermsTest::literalsNoneToAll);
        say(6, "OUT_OF_RANGE if there is no such term", () -> Missing.term("literals", PlaFolder::literals));
        say(7, "0 to 2 to the power of the number of inputs, minus 1", BoundaryTermsTest::firstAndLastWord);
        say(7, "Returns the output word", BoundaryTermsTest::outputWordNoneToAll);
        say(7, "OUT_OF_RANGE if x is out of range", BoundaryTermsTest::wordsOutOfRange);
        say(8, "Returns the number of input words", BoundaryTermsTest::noWordToAllWords);
        say(8, "OUT_OF_RANGE if there is no such output", BoundaryTermsTest::noSuchOutput);
        say(9, "Returns 1 if it is, 0 if it is not", BoundaryTermsTest::redundantOrNot);
        say(9, "OUT_OF_RANGE if there is no such term", () -> Missing.term("isRedundant", PlaFolder::isRedundant));
        say(10, "as long as there is a redundant term, the one with the highest number is removed",
            BoundaryTermsTest::highestFirst);
        say(10, "If at least one term is removed, all folds are removed, too.", BoundaryTermsTest::foldsGoIfATermGoes);
        say(10, "Undoable.", BoundaryTermsTest::removeRedundantIsUndone);
        say(10, "Returns the number of terms that were removed.", BoundaryTermsTest::numberRemoved);
    }

    public static void main(String[] args) {
        p1ToP4();
        p5ToP10();
        Due.finish();
    }
}
