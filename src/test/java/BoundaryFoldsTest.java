// The boundary cases of promises 11 to 24, a test for each sentence that names one.
public final class BoundaryFoldsTest {
    private static void say(int promise, String words, Runnable test) {
        Sentence.holds("Promise " + promise, words, test);
    }

    // ---- 11: uses

    private static void noTermToAllTerms() {
        PlaFolder x = Samples.sized(6, 4);
        for (int k = 0; k < 9; k++) {
            x.addTerm(1, 0, 1);
        }
        x.addTerm(0, 1 + 32, 1 + 8);
        Due.is("uses(0), all ten terms", x.uses(0), 1023);
        Due.is("uses(5), the last term alone", x.uses(5), 512);
        Due.is("uses(6), all ten terms", x.uses(6), 1023);
        Due.is("uses(9), the last term alone", x.uses(9), 512);
        Due.is("uses(1), no term", x.uses(1), 0);
        Due.is("uses(7), no term", x.uses(7), 0);
        x.removeTerm(9);
        Due.is("uses(0), nine terms", x.uses(0), 511);
        Due.is("uses(5), no term", x.uses(5), 0);
    }

    // ---- 12: canFold

    private static void canFoldWhateverIsFolded() {
        PlaFolder x = Samples.fullAndFolded();
        Due.is("canFold(1, 0), the fold", x.canFold(1, 0), 1);
        Due.is("canFold(0, 1), the fold upside down", x.canFold(0, 1), 1);
        Due.is("canFold(1, 2), both in other folds", x.canFold(1, 2), 1);
        Due.is("canFold(7, 9), both in other folds", x.canFold(7, 9), 1);
        PlaFolder y = Samples.chain();
        Due.is("fold(8, 9), a cycle", y.fold(8, 9), -4);
        Due.is("canFold(8, 9), a cycle", y.canFold(8, 9), 1);
        Twins.harmless("canFold(0, 1)", Samples::worked, z -> z.canFold(0, 1), 1);
    }

    private static void canFoldDifferentColumns() {
        PlaFolder x = Samples.sized(6, 4);
        for (int u = 0; u < 10; u++) {
            for (int v = 0; v < 10; v++) {
                boolean fold = u != v && u < 6 == v < 6;
                Due.is("canFold(" + u + ", " + v + ") of no terms", x.canFold(u, v), fold ? 1 : 0);
            }
        }
        Twins.harmless("canFold(2, 2)", Samples::worked, y -> y.canFold(2, 2), 0);
    }

    private static void canFoldSameKind() {
        for (int inputs = 1; inputs <= 6; inputs++) {
            PlaFolder x = Samples.sized(inputs, 1);
            Due.is("canFold of the last input and the first output", x.canFold(inputs - 1, 6), 0);
            Due.is("canFold of the first output and the last input", x.canFold(6, inputs - 1), 0);
        }
        Twins.harmless("canFold(3, 8)", Samples::worked, y -> y.canFold(3, 8), 0);
    }

    private static void canFoldNoTermInCommon() {
        PlaFolder x = Samples.sized(6, 4);
        for (int k = 0; k < 9; k++) {
            x.addTerm(1, 0, 1);
        }
        x.addTerm(0, 2, 2);
        Due.is("canFold(0, 1), nine terms and one", x.canFold(0, 1), 1);
        Due.is("canFold(6, 7), nine terms and one", x.canFold(6, 7), 1);
        Due.is("canFold(0, 2), nine terms and none", x.canFold(0, 2), 1);
        Due.is("canFold(2, 3), no terms", x.canFold(2, 3), 1);
        x.removeTerm(9);
        x.addTerm(1, 2, 3);
        Due.is("canFold(0, 1), the tenth in common", x.canFold(0, 1), 0);
        Due.is("canFold(6, 7), the tenth in common", x.canFold(6, 7), 0);
        x.removeTerm(9);
        Due.is("canFold(0, 1), the tenth is gone", x.canFold(0, 1), 1);
        PlaFolder y = Samples.sized(6, 4);
        y.addTerm(1, 2, 1);
        Due.is("canFold(1, 0), 0 demanded of one and 1 of the other", y.canFold(1, 0), 0);
    }

    private static void canFoldMissing() {
        Missing.column("canFold, the upper", (x, column) -> x.canFold(column, 0));
        Missing.column("canFold, the lower", (x, column) -> x.canFold(0, column));
        Missing.column("canFold, both", (x, column) -> x.canFold(column, column));
    }

    // ---- 13: fold

    private static void foldIsAdded() {
        PlaFolder x = Samples.sized(6, 4);
        int[][] folds = {{5, 0}, {1, 4}, {3, 2}, {9, 6}, {7, 8}};
        int[] partners = {-1, -1, -1, -1, -1, -1, -1, -1, -1, -1};
        for (int[] f : folds) {
            x.fold(f[0], f[1]);
            partners[f[0]] = f[1];
            partners[f[1]] = f[0];
            for (int column = 0; column < 10; column++) {
                Due.is("partner(" + column + ")", x.partner(column), partners[column]);
            }
        }
    }

    private static void foldIsUndone() {
        Twins.undoable("the first fold", Samples::fresh, x -> x.fold(3, 0), 1);
        Twins.undoable("the fifth fold", Samples::chain, x -> x.fold(9, 8), 5);
    }

    private static void numberOfFolds() {
        PlaFolder x = Samples.sized(6, 4);
        for (int u = 0; u < 10; u += 2) {
            Due.is("fold(" + u + ", " + (u + 1) + ")", x.fold(u, u + 1), u / 2 + 1);
        }
        PlaFolder y = Samples.sized(2, 1);
        Due.is("fold(1, 0) of two inputs", y.fold(1, 0), 1);
    }

    private static void foldMissing() {
        Missing.column("fold, the upper", (x, column) -> column == 0 ? 0 : x.fold(column, 0));
        Missing.column("fold, the lower", (x, column) -> column == 0 ? 0 : x.fold(0, column));
        Missing.column("fold, both", (x, column) -> x.fold(column, column));
    }

    private static void foldIsNoFold() {
        Twins.refused("fold(4, 4), the same input", Samples::worked, x -> x.fold(4, 4), -3);
        Twins.refused("fold(7, 7), the same output", Samples::worked, x -> x.fold(7, 7), -3);
        Twins.refused("fold(4, 7), an input and an output", Samples::worked, x -> x.fold(4, 7), -3);
        Twins.refused("fold(7, 4), an output and an input", Samples::worked, x -> x.fold(7, 4), -3);
        Twins.refused("fold(4, 1), a term in common", BoundaryFoldsTest::allInCommon, x -> x.fold(4, 1), -3);
        Twins.refused("fold(9, 6), a term in common", BoundaryFoldsTest::allInCommon, x -> x.fold(9, 6), -3);
        Twins.refused("fold(0, 0) of one input", () -> Samples.sized(1, 1), x -> x.fold(0, 0), -3);
    }

    private static PlaFolder allInCommon() {
        PlaFolder x = Samples.full();
        x.removeTerm(0);
        x.addTerm(21, 42, 15);
        return x;
    }

    private static void columnIsTaken() {
        int[][] taken = {{1, 4}, {0, 4}, {4, 1}, {4, 0}, {1, 0}, {0, 1}, {1, 2}, {0, 3}, {8, 7}, {7, 8}, {6, 7}};
        for (int[] t : taken) {
            Twins.refused("fold(" + t[0] + ", " + t[1] + ")", BoundaryFoldsTest::threeFolds,
                x -> x.fold(t[0], t[1]), -3);
        }
        PlaFolder x = threeFolds();
        x.unfold(0);
        Due.is("fold(1, 4), 1 is free again", x.fold(1, 4), 3);
    }

    /** The folds (1, 0), (2, 3) and (8, 6) of an array without terms, so that no cycle can be. */
    private static PlaFolder threeFolds() {
        PlaFolder x = Samples.sized(5, 3);
        x.fold(1, 0);
        x.fold(2, 3);
        x.fold(8, 6);
        return x;
    }

    private static void shortestCycle() {
        PlaFolder x = Samples.sized(2, 2);
        x.addTerm(1, 0, 1);
        x.addTerm(2, 0, 2);
        Due.is("fold(0, 1)", x.fold(0, 1), 1);
        Due.is("fold(7, 6), the other way", x.fold(7, 6), -4);
        Due.is("folds()", x.folds(), 1);
        Due.is("fold(6, 7)", x.fold(6, 7), 2);
        Due.is("errorCount(-4)", x.errorCount(-4), 1);
    }

    private static void cycleThroughOtherTerms() {
        Twins.refused("fold(8, 9), the fifth fold", Samples::chain, x -> x.fold(8, 9), -4);
        int[][] folds = {{0, 1}, {2, 3}, {4, 5}, {6, 7}};
        for (int last = 0; last < 4; last++) {
            PlaFolder x = ringOfFourTerms();
            for (int i = 1; i < 4; i++) {
                int[] f = folds[(last + i) % 4];
                Due.is("fold(" + f[0] + ", " + f[1] + ")", x.fold(f[0], f[1]), i);
            }
            int[] f = folds[last];
            Due.is("fold(" + f[0] + ", " + f[1] + "), the last", x.fold(f[0], f[1]), -4);
            Due.is("fold(" + f[1] + ", " + f[0] + ")", x.fold(f[1], f[0]), 4);
        }
    }

    /** The folds (0, 1), (2, 3), (4, 5) and (6, 7) demand one step of the ring each: 0, 1, 2, 3 and 0 again. */
    private static PlaFolder ringOfFourTerms() {
        PlaFolder x = Samples.sized(6, 3);
        x.addTerm(1, 0, 2);
        x.addTerm(2, 4, 4);
        x.addTerm(8, 16, 4);
        x.addTerm(32, 0, 1);
        return x;
    }

    private static void checksOfFold() {
        PlaFolder x = Samples.chain();
        Due.is("fold(8, 10), missing before a cycle", x.fold(8, 10), -2);
        Due.is("fold(0, -1), missing before taken", x.fold(0, -1), -2);
        Due.is("fold(10, 10), missing before the same", x.fold(10, 10), -2);
        Due.is("fold(1, 0), taken before a cycle", x.fold(1, 0), -3);
        Due.is("fold(7, 0), no fold before a cycle", x.fold(7, 0), -3);
        Due.is("errorCount(-2)", x.errorCount(-2), 3);
        Due.is("errorCount(-3)", x.errorCount(-3), 2);
        Due.is("errorCount(-4)", x.errorCount(-4), 0);
    }

    // ---- 14: unfold

    private static void unfoldByEither() {
        for (int column = 0; column < 10; column++) {
            PlaFolder x = Samples.fullAndFolded();
            int other = x.partner(column);
            Due.is("unfold(" + column + ")", x.unfold(column), 4);
            for (int c = 0; c < 10; c++) {
                boolean free = c == column || c == other;
                Due.is("unfold(" + column + "): partner(" + c + ") is NONE", x.partner(c) == -1 ? 1 : 0, free ? 1 : 0);
            }
        }
        PlaFolder y = Samples.fullAndFolded();
        y.unfold(0);
        Due.is("its demand is gone", y.mustPrecede(1, 0), 0);
        Due.is("the other demand stays", y.mustPrecede(3, 2), 1);
    }

    private static void unfoldIsUndone() {
        Twins.undoable("unfold(1), an upper column", Samples::worked, x -> x.unfold(1), 2);
        Twins.undoable("unfold(3), a lower column", Samples::worked, x -> x.unfold(3), 2);
        Twins.undoable("unfold(9) of five", Samples::fullAndFolded, x -> x.unfold(9), 4);
        Twins.undoable("unfold(0), the only fold", BoundaryFoldsTest::oneFold, x -> x.unfold(0), 0);
    }

    private static PlaFolder oneFold() {
        PlaFolder x = new PlaFolder();
        x.fold(3, 0);
        return x;
    }

    private static void foldsThatRemain() {
        PlaFolder x = Samples.fullAndFolded();
        for (int left = 4; left >= 0; left--) {
            Due.is("unfold(" + 2 * left + ")", x.unfold(2 * left), left);
        }
    }

    private static void unfoldBelongsToNoFold() {
        Twins.refused("unfold(4)", Samples::worked, x -> x.unfold(4), -3);
        Twins.refused("unfold(7)", Samples::worked, x -> x.unfold(7), -3);
        PlaFolder x = oneFold();
        x.unfold(3);
        for (int column : new int[] {0, 1, 2, 3, 6, 7}) {
            Due.is("unfold(" + column + ")", x.unfold(column), -3);
        }
        Due.is("errorCount(-3)", x.errorCount(-3), 6);
    }

    // ---- 15: partner

    private static void partnerBothWays() {
        PlaFolder x = Samples.fullAndFolded();
        int[] want = {1, 0, 3, 2, 5, 4, 7, 6, 9, 8};
        for (int column = 0; column < 10; column++) {
            Due.is("partner(" + column + ")", x.partner(column), want[column]);
        }
        PlaFolder y = Samples.sized(6, 4);
        y.fold(5, 0);
        y.fold(6, 9);
        Due.is("partner(5), the first column", y.partner(5), 0);
        Due.is("partner(0), the last input", y.partner(0), 5);
        Due.is("partner(6), the last column", y.partner(6), 9);
    }

    private static void partnerNone() {
        PlaFolder x = Samples.sized(6, 4);
        for (int column = 0; column < 10; column++) {
            Due.is("partner(" + column + ")", x.partner(column), PlaFolder.NONE);
        }
        Twins.harmless("partner(4)", Samples::worked, y -> y.partner(4), -1);
        Twins.harmless("partner(7)", Samples::worked, y -> y.partner(7), -1);
    }

    // ---- 16: folds

    private static void noFoldToFiveFolds() {
        PlaFolder x = Samples.sized(6, 4);
        for (int u = 0; u < 10; u += 2) {
            Due.is("folds()", x.folds(), u / 2);
            x.fold(u, u + 1);
        }
        Due.is("folds()", x.folds(), 5);
        x.fold(0, 1);
        Due.is("folds() after a refused fold", x.folds(), 5);
        for (int left = 4; left >= 0; left--) {
            x.unfold(2 * left);
            Due.is("folds()", x.folds(), left);
        }
        x.unfold(0);
        Due.is("folds() after a refused unfold", x.folds(), 0);
    }

    // ---- 17, 18: termAt, rowOf

    private static void topAndBottomRow() {
        PlaFolder x = Samples.fullAndFolded();
        int[] order = {1, 0, 3, 2, 4, 5, 6, 7, 8, 9};
        for (int row = 0; row < 10; row++) {
            Due.is("termAt(" + row + ")", x.termAt(row), order[row]);
        }
        PlaFolder y = Samples.sized(6, 1);
        for (int k = 0; k < 10; k++) {
            y.addTerm(k == 0 ? 1 : 2, 0, 1);
        }
        y.fold(1, 0);
        Due.is("termAt(0), all others above term 0", y.termAt(0), 1);
        Due.is("termAt(8)", y.termAt(8), 9);
        Due.is("termAt(9), term 0 at the bottom", y.termAt(9), 0);
        y.setSize(1, 1);
        y.addTerm(1, 0, 1);
        Due.is("termAt(0) of one", y.termAt(0), 0);
    }

    private static void rowOfEachTerm() {
        PlaFolder x = Samples.fullAndFolded();
        int[] order = {1, 0, 3, 2, 4, 5, 6, 7, 8, 9};
        for (int row = 0; row < 10; row++) {
            Due.is("rowOf(" + order[row] + ")", x.rowOf(order[row]), row);
        }
        PlaFolder y = Samples.sized(6, 1);
        for (int k = 0; k < 10; k++) {
            y.addTerm(k < 9 ? 1 : 2, 0, 1);
        }
        y.fold(1, 0);
        Due.is("rowOf(9), above all others", y.rowOf(9), 0);
        Due.is("rowOf(0)", y.rowOf(0), 1);
        Due.is("rowOf(8), at the bottom", y.rowOf(8), 9);
    }

    // ---- 19: mustPrecede

    private static void directlyOrThroughOthers() {
        PlaFolder x = Samples.chain();
        x.fold(9, 8);
        for (int a = 0; a < 5; a++) {
            for (int b = 0; b < 5; b++) {
                Due.is("mustPrecede(" + a + ", " + b + ")", x.mustPrecede(a, b), a < b ? 1 : 0);
            }
        }
        x.unfold(2);
        Due.is("mustPrecede(0, 1), directly", x.mustPrecede(0, 1), 1);
        Due.is("mustPrecede(0, 2), through term 1 no more", x.mustPrecede(0, 2), 0);
        Due.is("mustPrecede(1, 2), no more", x.mustPrecede(1, 2), 0);
    }

    private static void noDemand() {
        PlaFolder x = Samples.full();
        for (int a = 0; a < 10; a++) {
            for (int b = 0; b < 10; b++) {
                Due.is("mustPrecede(" + a + ", " + b + ") without folds", x.mustPrecede(a, b), 0);
            }
        }
        PlaFolder y = Samples.sized(6, 1);
        y.addTerm(1, 0, 1);
        y.addTerm(0, 0, 1);
        y.fold(0, 1);
        y.fold(3, 2);
        Due.is("mustPrecede(0, 1), the lower column uses no term", y.mustPrecede(0, 1), 0);
        Due.is("mustPrecede(1, 0)", y.mustPrecede(1, 0), 0);
    }

    private static void equalTerms() {
        PlaFolder x = Samples.fullAndFolded();
        for (int a = 0; a < 10; a++) {
            Due.is("mustPrecede(" + a + ", " + a + ")", x.mustPrecede(a, a), 0);
        }
        Twins.harmless("mustPrecede(3, 3)", Samples::worked, y -> y.mustPrecede(3, 3), 0);
    }

    private static void precedeMissing() {
        Missing.term("mustPrecede, the upper", (x, term) -> x.mustPrecede(term, 0));
        Missing.term("mustPrecede, the lower", (x, term) -> x.mustPrecede(0, term));
        Missing.term("mustPrecede, both", (x, term) -> x.mustPrecede(term, term));
    }

    // ---- 20: area

    private static void leastAndMostArea() {
        Due.is("area() of a new object", new PlaFolder().area(), 0);
        PlaFolder least = Samples.sized(1, 1);
        least.addTerm(0, 0, 1);
        Due.is("area(), one term and two columns", least.area(), 2);
        PlaFolder most = Samples.full();
        Due.is("area(), ten terms and ten columns", most.area(), 100);
        PlaFolder folded = Samples.fullAndFolded();
        Due.is("area(), ten terms and five tracks", folded.area(), 50);
        folded.addTerm(0, 0, 1);
        Due.is("area() after FULL", folded.area(), 50);
        PlaFolder empty = Samples.sized(6, 4);
        empty.foldBest();
        Due.is("area(), no terms and five tracks", empty.area(), 0);
    }

    // ---- 21: span

    private static void oneRowToAllRows() {
        PlaFolder x = Samples.sized(6, 4);
        x.addTerm(1 + 2, 0, 1);
        for (int k = 1; k < 9; k++) {
            x.addTerm(0, 4, 2);
        }
        x.addTerm(0, 1 + 8, 1);
        Due.is("span(0), the top and the bottom row", x.span(0), 10);
        Due.is("span(1), the top row", x.span(1), 1);
        Due.is("span(3), the bottom row", x.span(3), 1);
        Due.is("span(2), all but these", x.span(2), 8);
        Due.is("span(6), the top and the bottom row", x.span(6), 10);
        x.fold(0, 2);
        Due.is("span(0), two rows at the top", x.span(0), 2);
        Due.is("span(3), the second row", x.span(3), 1);
        Due.is("span(2), the rows below", x.span(2), 8);
        Due.is("span(6)", x.span(6), 2);
    }

    private static void spanOfNoTerm() {
        PlaFolder x = Samples.fullAndFolded();
        Due.is("span(7), an output without terms", x.span(7), 0);
        Due.is("span(9), an output without terms", x.span(9), 0);
        PlaFolder y = Samples.sized(6, 4);
        for (int column = 0; column < 10; column++) {
            Due.is("span(" + column + ") of no terms", y.span(column), 0);
        }
        Twins.harmless("span(8)", Samples::worked, z -> z.span(8), 0);
    }

    // ---- 22, 23: bestUpper, bestLower

    private static PlaFolder nothingToFold() {
        PlaFolder x = Samples.sized(6, 4);
        x.addTerm(21, 42, 15);
        return x;
    }

    private static void numberInTheBest() {
        Due.is("bestUpper(-1) of the smallest", Samples.sized(1, 1).bestUpper(-1), 0);
        Due.is("bestUpper(-1) of one input, two outputs", Samples.sized(1, 2).bestUpper(-1), 1);
        Due.is("bestUpper(-1) of two inputs, one output", Samples.sized(2, 1).bestUpper(-1), 1);
        Due.is("bestUpper(-1) of the largest", Samples.sized(6, 4).bestUpper(-1), 5);
        Due.is("bestUpper(-1), one term uses all columns", nothingToFold().bestUpper(-1), 0);
        Due.is("bestUpper(-1), ten terms", Samples.fullAndFolded().bestUpper(-1), 5);
        Twins.harmless("bestUpper(-1)", Samples::worked, x -> x.bestUpper(-1), 3);
    }

    private static void upperFirstAndLast() {
        PlaFolder x = Samples.sized(6, 4);
        for (int i = 0; i < 5; i++) {
            Due.is("bestUpper(" + i + ")", x.bestUpper(i), 2 * i);
        }
        PlaFolder y = Samples.sized(1, 2);
        Due.is("bestUpper(0), outputs alone", y.bestUpper(0), 6);
    }

    private static void upperTooFar() {
        Due.is("bestUpper(0) of the smallest", Samples.sized(1, 1).bestUpper(0), -1);
        Due.is("bestUpper(0), nothing to fold", nothingToFold().bestUpper(0), -1);
        PlaFolder x = Samples.sized(6, 4);
        Due.is("bestUpper(5) of five", x.bestUpper(5), -1);
        Due.is("bestUpper(6) of five", x.bestUpper(6), -1);
        Due.is("bestUpper(1000)", x.bestUpper(1000), -1);
        Due.is("bestUpper(MAX)", x.bestUpper(Integer.MAX_VALUE), -1);
        Twins.harmless("bestUpper(2)", Samples::worked, y -> y.bestUpper(2), 6);
        Twins.harmless("bestUpper(3)", Samples::worked, y -> y.bestUpper(3), -1);
        Twins.harmless("bestUpper(MAX)", Samples::worked, y -> y.bestUpper(Integer.MAX_VALUE), -1);
    }

    private static void upperTooSmall() {
        for (int index : new int[] {-2, -3, -1000, Integer.MIN_VALUE, Integer.MIN_VALUE + 1}) {
            Twins.refused("bestUpper(" + index + ")", Samples::worked, x -> x.bestUpper(index), -2);
        }
        Due.is("bestUpper(-2) of the smallest", Samples.sized(1, 1).bestUpper(-2), -2);
    }

    private static void lowerFirstAndLast() {
        PlaFolder x = Samples.sized(6, 4);
        for (int i = 0; i < 5; i++) {
            Due.is("bestLower(" + i + ")", x.bestLower(i), 2 * i + 1);
        }
        PlaFolder y = Samples.sized(1, 2);
        Due.is("bestLower(0), outputs alone", y.bestLower(0), 7);
    }

    private static void lowerTooFar() {
        Due.is("bestLower(0) of the smallest", Samples.sized(1, 1).bestLower(0), -1);
        Due.is("bestLower(0), nothing to fold", nothingToFold().bestLower(0), -1);
        PlaFolder x = Samples.sized(6, 4);
        Due.is("bestLower(5) of five", x.bestLower(5), -1);
        Due.is("bestLower(6) of five", x.bestLower(6), -1);
        Due.is("bestLower(1000)", x.bestLower(1000), -1);
        Due.is("bestLower(MAX)", x.bestLower(Integer.MAX_VALUE), -1);
        Twins.harmless("bestLower(2)", Samples::worked, y -> y.bestLower(2), 8);
        Twins.harmless("bestLower(3)", Samples::worked, y -> y.bestLower(3), -1);
        Twins.harmless("bestLower(MAX)", Samples::worked, y -> y.bestLower(Integer.MAX_VALUE), -1);
    }

    private static void lowerNegative() {
        for (int index : new int[] {-1, -2, -1000, Integer.MIN_VALUE, Integer.MIN_VALUE + 1}) {
            Twins.refused("bestLower(" + index + ")", Samples::worked, x -> x.bestLower(index), -2);
        }
        Due.is("bestLower(-1) of the smallest", Samples.sized(1, 1).bestLower(-1), -2);
    }

    // ---- 24: foldBest

    private static void bestReplaces() {
        PlaFolder x = Samples.sized(6, 4);
        x.fold(5, 0);
        x.fold(1, 4);
        x.fold(9, 6);
        x.foldBest();
        Due.is("folds()", x.folds(), 5);
        for (int column = 0; column < 10; column++) {
            Due.is("partner(" + column + ")", x.partner(column), column ^ 1);
        }
        x.foldBest();
        Due.is("folds() when it is the best already", x.folds(), 5);
        PlaFolder y = nothingToFold();
        y.foldBest();
        Due.is("folds(), nothing to fold", y.folds(), 0);
        PlaFolder z = Samples.chainOfTerms();
        z.fold(1, 0);
        Due.is("mustPrecede(1, 0)", z.mustPrecede(1, 0), 1);
        z.foldBest();
        Due.is("mustPrecede(1, 0), the fold before demands nothing now", z.mustPrecede(1, 0), 0);
        Due.is("mustPrecede(0, 1)", z.mustPrecede(0, 1), 1);
    }

    private static void bestIsUndone() {
        Twins.undoable("foldBest()", Samples::worked, PlaFolder::foldBest, 4 * 5);
        Twins.undoable("foldBest() of no terms", Samples::fresh, PlaFolder::foldBest, 0);
        Twins.undoable("foldBest() of the smallest", () -> Samples.sized(1, 1), PlaFolder::foldBest, 0);
        Twins.undoable("foldBest() again", BoundaryFoldsTest::bestAlready, PlaFolder::foldBest, 50);
        Twins.undoable("foldBest(), nothing to fold", BoundaryFoldsTest::nothingToFold, PlaFolder::foldBest, 10);
    }

    private static PlaFolder bestAlready() {
        PlaFolder x = Samples.fullAndFolded();
        x.foldBest();
        return x;
    }

    private static void areaAfterwards() {
        Due.is("foldBest() of no terms", Samples.sized(6, 4).foldBest(), 0);
        Due.is("foldBest() of ten terms", Samples.fullAndFolded().foldBest(), 50);
        PlaFolder least = Samples.sized(1, 1);
        least.addTerm(1, 0, 1);
        Due.is("foldBest(), one term and two columns", least.foldBest(), 2);
        PlaFolder all = Samples.sized(6, 4);
        for (int k = 0; k < 10; k++) {
            all.addTerm(63, 0, 15);
        }
        Due.is("foldBest(), nothing to fold of ten terms", all.foldBest(), 100);
        Due.is("area()", all.area(), 100);
    }

    private static void p11ToP16() {
        say(11, "Returns a bit set of terms", BoundaryFoldsTest::noTermToAllTerms);
        say(11, "OUT_OF_RANGE if there is no such column", () -> Missing.column("uses", PlaFolder::uses));
        say(12, "whether the columns belong to other folds or not", BoundaryFoldsTest::canFoldWhateverIsFolded);
        say(12, "Returns 1 if the columns are different", BoundaryFoldsTest::canFoldDifferentColumns);
        say(12, "of the same kind", BoundaryFoldsTest::canFoldSameKind);
        say(12, "use no term in common, otherwise 0", BoundaryFoldsTest::canFoldNoTermInCommon);
        say(12, "OUT_OF_RANGE if there is no such column", BoundaryFoldsTest::canFoldMissing);
        say(13, "Adds a fold to the set of folds.", BoundaryFoldsTest::foldIsAdded);
        say(13, "Undoable.", BoundaryFoldsTest::foldIsUndone);
        say(13, "Returns the number of folds", BoundaryFoldsTest::numberOfFolds);
        say(13, "OUT_OF_RANGE if there is no such column", BoundaryFoldsTest::foldMissing);
        say(13, "NOT_POSSIBLE if the pair is not a fold", BoundaryFoldsTest::foldIsNoFold);
        say(13, "one of the columns belongs to a fold already", BoundaryFoldsTest::columnIsTaken);
        say(13, "CYCLE if the set of folds would not be feasible", BoundaryFoldsTest::shortestCycle);
        say(13, "the set of folds would not be feasible", BoundaryFoldsTest::cycleThroughOtherTerms);
        say(13, "belongs to a fold already; CYCLE", BoundaryFoldsTest::checksOfFold);
        say(14, "Removes the fold to which a column belongs.", BoundaryFoldsTest::unfoldByEither);
        say(14, "Undoable.", BoundaryFoldsTest::unfoldIsUndone);
        say(14, "Returns the number of folds that remain", BoundaryFoldsTest::foldsThatRemain);
        say(14, "OUT_OF_RANGE if there is no such column; NOT_POSSIBLE",
            () -> Missing.column("unfold", PlaFolder::unfold));
        say(14, "NOT_POSSIBLE if it belongs to no fold", BoundaryFoldsTest::unfoldBelongsToNoFold);
        say(15, "Returns the number of the other column", BoundaryFoldsTest::partnerBothWays);
        say(15, "NONE if the column belongs to no fold", BoundaryFoldsTest::partnerNone);
        say(15, "OUT_OF_RANGE if there is no such column", () -> Missing.column("partner", PlaFolder::partner));
        say(16, "Returns the number of folds.", BoundaryFoldsTest::noFoldToFiveFolds);
    }

    private static void p17ToP24() {
        say(17, "index of the row, 0 for the top", BoundaryFoldsTest::topAndBottomRow);
        say(17, "OUT_OF_RANGE if there is no such row", () -> Missing.term("termAt", PlaFolder::termAt));
        say(18, "Returns the index of the row, 0 for the top", BoundaryFoldsTest::rowOfEachTerm);
        say(18, "OUT_OF_RANGE if there is no such term", () -> Missing.term("rowOf", PlaFolder::rowOf));
        say(19, "directly by a demand, or through other terms", BoundaryFoldsTest::directlyOrThroughOthers);
        say(19, "Returns 1 if a must lie above b, 0 if not", BoundaryFoldsTest::noDemand);
        say(19, "0 if a equals b", BoundaryFoldsTest::equalTerms);
        say(19, "OUT_OF_RANGE if there is no such term", BoundaryFoldsTest::precedeMissing);
        say(20, "Returns the area.", BoundaryFoldsTest::leastAndMostArea);
        say(21, "the number of rows from the uppermost to the lowest row whose term it uses, both included",
            BoundaryFoldsTest::oneRowToAllRows);
        say(21, "0 if the column uses no term", BoundaryFoldsTest::spanOfNoTerm);
        say(21, "OUT_OF_RANGE if there is no such column", () -> Missing.column("span", PlaFolder::span));
        say(22, "or the number of folds if index is -1", BoundaryFoldsTest::numberInTheBest);
        say(22, "index in the list of the best folding, from 0", BoundaryFoldsTest::upperFirstAndLast);
        say(22, "NONE if the best folding has not so many folds", BoundaryFoldsTest::upperTooFar);
        say(22, "OUT_OF_RANGE if index is less than -1", BoundaryFoldsTest::upperTooSmall);
        say(23, "index in the list of the best folding, from 0", BoundaryFoldsTest::lowerFirstAndLast);
        say(23, "NONE if the best folding has not so many folds", BoundaryFoldsTest::lowerTooFar);
        say(23, "OUT_OF_RANGE if index is negative", BoundaryFoldsTest::lowerNegative);
        say(24, "Replaces the set of folds by the best folding.", BoundaryFoldsTest::bestReplaces);
        say(24, "Undoable.", BoundaryFoldsTest::bestIsUndone);
        say(24, "Returns the area afterwards.", BoundaryFoldsTest::areaAfterwards);
    }

    public static void main(String[] args) {
        p11ToP16();
        p17ToP24();
        Due.finish();
    }
}
