// Each promise of the document: ordinary inputs, the edges that it names, and wrong inputs.
public final class PromisesTest {
    private static final int[] FAR = {Integer.MIN_VALUE, Integer.MIN_VALUE + 1, -100, 100, Integer.MAX_VALUE};

    private static long hash(long... values) {
        long h = 2713;
        for (long v : values) {
            h = 31 * h + v;
        }
        return h;
    }

    /** Six inputs, four outputs and a term for each input: term k uses column k alone of the inputs. */
    private static PlaFolder oneTermAnInput() {
        PlaFolder x = new PlaFolder();
        x.setSize(6, 4);
        for (int k = 0; k < 6; k++) {
            x.addTerm(1 << k, 0, 1);
        }
        return x;
    }

    private static PlaFolder full() {
        PlaFolder x = new PlaFolder();
        for (int k = 0; k < 10; k++) {
            Due.is("addTerm of term " + k, x.addTerm(k, 0, 1), k);
        }
        return x;
    }

    private static void p1NewObject() {
        PlaFolder x = new PlaFolder();
        Due.is("p1 digest", x.digest(), hash(0, 0, 0, 0, 0, 4, 2, 0,
            0, -1, 0, 0, -1, 0, 0, -1, 0, 0, -1, 0, 0, -1, 0, 0, -1, 0,
            0, 3, 0, 1, 2, 3, 6, 7, 0));
        Due.is("p1 terms", x.terms(), 0);
        Due.is("p1 folds", x.folds(), 0);
        Due.is("p1 area", x.area(), 0);
        Due.is("p1 evaluate(15)", x.evaluate(15), 0);
        Due.is("p1 evaluate(16)", x.evaluate(16), -2);
        Due.is("p1 uses(3)", x.uses(3), 0);
        Due.is("p1 uses(4)", x.uses(4), -2);
        Due.is("p1 uses(7)", x.uses(7), 0);
        Due.is("p1 uses(8)", x.uses(8), -2);
        Due.is("p1 undo", x.undo(), -6);
        PlaFolder y = new PlaFolder();
        for (int code = -6; code <= -2; code++) {
            Due.is("p1 errorCount(" + code + ")", y.errorCount(code), 0);
        }
        x.addTerm(0, 0, 1);
        Due.is("p1 terms of another object", y.terms(), 0);
    }

    private static void p2SetSize() {
        PlaFolder x = new PlaFolder();
        x.addTerm(1, 0, 1);
        x.addTerm(2, 0, 1);
        x.fold(0, 1);
        Due.is("p2 setSize(6, 4)", x.setSize(6, 4), 2);
        Due.is("p2 terms", x.terms(), 0);
        Due.is("p2 folds", x.folds(), 0);
        Due.is("p2 partner(0)", x.partner(0), -1);
        Due.is("p2 uses(5)", x.uses(5), 0);
        Due.is("p2 uses(9)", x.uses(9), 0);
        Due.is("p2 evaluate(63)", x.evaluate(63), 0);
        Due.is("p2 setSize(1, 1)", x.setSize(1, 1), 0);
        Due.is("p2 uses(0)", x.uses(0), 0);
        Due.is("p2 uses(1)", x.uses(1), -2);
        Due.is("p2 uses(6)", x.uses(6), 0);
        Due.is("p2 uses(7)", x.uses(7), -2);
        Due.is("p2 setSize(1, 1) again", x.setSize(1, 1), 0);
        Due.is("p2 undo", x.undo(), 5 - 1);
        Due.is("p2 undo to 6 inputs", x.undo(), 3);
        Due.is("p2 evaluate(63)", x.evaluate(63), 0);
        Due.is("p2 undo to two terms", x.undo(), 2);
        Due.is("p2 terms", x.terms(), 2);
        Due.is("p2 partner(0) brought back", x.partner(0), 1);
        int[][] wrong = {{0, 1}, {7, 1}, {-1, 2}, {4, 0}, {4, 5}, {4, -1}, {0, 0}, {7, 5}};
        for (int[] w : wrong) {
            Due.is("p2 setSize(" + w[0] + ", " + w[1] + ")", x.setSize(w[0], w[1]), -2);
        }
        for (int far : FAR) {
            Due.is("p2 setSize(" + far + ", 1)", x.setSize(far, 1), -2);
            Due.is("p2 setSize(1, " + far + ")", x.setSize(1, far), -2);
        }
        Due.is("p2 errorCount(-2)", x.errorCount(-2), 2 + 8 + 10);
        Due.is("p2 terms after errors", x.terms(), 2);
        Due.is("p2 folds after errors", x.folds(), 1);
        Due.is("p2 undo after errors", x.undo(), 1);
    }

    private static void p3AddTerm() {
        PlaFolder x = new PlaFolder();
        Due.is("p3 addTerm(15, 0, 3)", x.addTerm(15, 0, 3), 0);
        Due.is("p3 addTerm(0, 15, 1)", x.addTerm(0, 15, 1), 1);
        x.fold(0, 1);
        int[][] wrong = {{16, 0, 1}, {0, 16, 1}, {1, 1, 1}, {7, 8 + 4, 1}, {0, 0, 0}, {0, 0, 4}, {0, 0, 5},
            {-1, 0, 1}, {0, -1, 1}, {0, 0, -1}, {Integer.MIN_VALUE, 0, 1}, {0, Integer.MIN_VALUE, 1},
            {0, 0, Integer.MIN_VALUE}, {Integer.MAX_VALUE, 0, 1}, {0, Integer.MAX_VALUE, 1}};
        for (int[] w : wrong) {
            Due.is("p3 addTerm(" + w[0] + ", " + w[1] + ", " + w[2] + ")", x.addTerm(w[0], w[1], w[2]), -2);
        }
        Due.is("p3 errorCount(-2)", x.errorCount(-2), wrong.length);
        Due.is("p3 fold(6, 7) shares term 0", x.fold(6, 7), -3);
        x.removeTerm(0);
        x.addTerm(1, 0, 2);
        Due.is("p3 fold(6, 7)", x.fold(6, 7), 1);
        Due.is("p3 addTerm(0, 0, 2)", x.addTerm(0, 0, 2), 2);
        Due.is("p3 folds are gone", x.folds(), 0);
        Due.is("p3 undo", x.undo(), 4);
        Due.is("p3 folds are back", x.folds(), 1);
        PlaFolder y = full();
        Due.is("p3 wrong before full", y.addTerm(1, 1, 1), -2);
        Due.is("p3 full", y.addTerm(1, 0, 1), -5);
        Due.is("p3 errorCount(-5)", y.errorCount(-5), 1);
        Due.is("p3 terms", y.terms(), 10);
        y.removeTerm(3);
        Due.is("p3 room again", y.addTerm(1, 0, 1), 9);
    }

    private static void p4RemoveTerm() {
        PlaFolder x = oneTermAnInput();
        x.fold(1, 0);
        Due.is("p4 removeTerm(6)", x.removeTerm(6), -2);
        Due.is("p4 removeTerm(-1)", x.removeTerm(-1), -2);
        Due.is("p4 folds after errors", x.folds(), 1);
        Due.is("p4 removeTerm(2)", x.removeTerm(2), 5);
        Due.is("p4 folds", x.folds(), 0);
        Due.is("p4 uses(1)", x.uses(1), 2);
        Due.is("p4 uses(2)", x.uses(2), 0);
        Due.is("p4 uses(3)", x.uses(3), 4);
        Due.is("p4 uses(5)", x.uses(5), 16);
        Due.is("p4 evaluate(4)", x.evaluate(4), 0);
        Due.is("p4 evaluate(8)", x.evaluate(8), 1);
        rowsAre("p4 rows", x, new int[] {0, 1, 2, 3, 4});
        Due.is("p4 undo", x.undo(), 4);
        Due.is("p4 partner(1)", x.partner(1), 0);
        Due.is("p4 uses(2) again", x.uses(2), 4);
        Due.is("p4 removeTerm(5)", x.removeTerm(5), 5);
        Due.is("p4 removeTerm(5) again", x.removeTerm(5), -2);
        for (int left = 4; left >= 0; left--) {
            Due.is("p4 removeTerm(0)", x.removeTerm(0), left);
        }
        Due.is("p4 removeTerm(0) of none", x.removeTerm(0), -2);
        for (int far : FAR) {
            Due.is("p4 removeTerm(" + far + ")", x.removeTerm(far), -2);
        }
        Due.is("p4 errorCount(-2)", x.errorCount(-2), 4 + FAR.length);
    }

    private static void p5Terms() {
        PlaFolder x = full();
        Due.is("p5 terms", x.terms(), 10);
        x.removeTerm(9);
        Due.is("p5 terms", x.terms(), 9);
        x.undo();
        Due.is("p5 terms", x.terms(), 10);
        x.setSize(2, 2);
        Due.is("p5 terms", x.terms(), 0);
    }

    private static void p6Literals() {
        PlaFolder x = new PlaFolder();
        x.addTerm(0, 0, 1);
        x.addTerm(5, 10, 1);
        x.addTerm(8, 0, 1);
        x.addTerm(0, 6, 1);
        Due.is("p6 literals(0)", x.literals(0), 0);
        Due.is("p6 literals(1)", x.literals(1), 4);
        Due.is("p6 literals(2)", x.literals(2), 1);
        Due.is("p6 literals(3)", x.literals(3), 2);
        Due.is("p6 literals(4)", x.literals(4), -2);
        Due.is("p6 literals(-1)", x.literals(-1), -2);
        for (int far : FAR) {
            Due.is("p6 literals(" + far + ")", x.literals(far), -2);
        }
        Due.is("p6 errorCount(-2)", x.errorCount(-2), 2 + FAR.length);
    }

    private static void p7Evaluate() {
        PlaFolder x = new PlaFolder();
        x.setSize(6, 4);
        x.addTerm(33, 2, 5);
        x.addTerm(0, 63, 8);
        x.addTerm(63, 0, 2);
        for (int word = 0; word < 64; word++) {
            int want = ((word & 35) == 33 ? 5 : 0) | (word == 0 ? 8 : 0) | (word == 63 ? 2 : 0);
            Due.is("p7 evaluate(" + word + ")", x.evaluate(word), want);
        }
        Due.is("p7 evaluate(64)", x.evaluate(64), -2);
        Due.is("p7 evaluate(-1)", x.evaluate(-1), -2);
        for (int inputs = 1; inputs <= 6; inputs++) {
            x.setSize(inputs, 1);
            x.addTerm(0, 0, 1);
            Due.is("p7 last word of " + inputs, x.evaluate((1 << inputs) - 1), 1);
            Due.is("p7 past the last word of " + inputs, x.evaluate(1 << inputs), -2);
        }
        for (int far : FAR) {
            Due.is("p7 evaluate(" + far + ")", x.evaluate(far), -2);
        }
        Due.is("p7 errorCount(-2)", x.errorCount(-2), 8 + FAR.length);
    }

    private static void p8OnCount() {
        PlaFolder x = new PlaFolder();
        x.setSize(6, 4);
        x.addTerm(0, 0, 1);
        x.addTerm(1, 0, 2);
        x.addTerm(0, 2, 2);
        x.addTerm(63, 0, 4);
        Due.is("p8 onCount(0)", x.onCount(0), 64);
        Due.is("p8 onCount(1)", x.onCount(1), 48);
        Due.is("p8 onCount(2)", x.onCount(2), 1);
        Due.is("p8 onCount(3)", x.onCount(3), 0);
        Due.is("p8 onCount(4)", x.onCount(4), -2);
        Due.is("p8 onCount(-1)", x.onCount(-1), -2);
        for (int far : FAR) {
            Due.is("p8 onCount(" + far + ")", x.onCount(far), -2);
        }
        Due.is("p8 errorCount(-2)", x.errorCount(-2), 2 + FAR.length);
        x.setSize(1, 1);
        x.addTerm(0, 0, 1);
        Due.is("p8 onCount(0) of one input", x.onCount(0), 2);
        Due.is("p8 onCount(1) of one output", x.onCount(1), -2);
    }

    private static void p9IsRedundant() {
        PlaFolder x = new PlaFolder();
        x.addTerm(1, 0, 3);
        x.addTerm(1, 2, 1);
        Due.is("p9 covered by a larger term", x.isRedundant(1), 1);
        Due.is("p9 the larger term", x.isRedundant(0), 0);
        x.addTerm(1, 4, 3);
        Due.is("p9 covered in both outputs", x.isRedundant(2), 1);
        x.addTerm(2, 0, 1);
        x.addTerm(3, 0, 2);
        x.removeTerm(0);
        Due.is("p9 covered in one of two outputs", x.isRedundant(1), 0);
        PlaFolder y = new PlaFolder();
        y.addTerm(3, 0, 1);
        y.addTerm(0, 1, 1);
        y.addTerm(2, 0, 1);
        Due.is("p9 first of three", y.isRedundant(0), 1);
        y.addTerm(2, 8, 1);
        y.addTerm(2, 8, 1);
        Due.is("p9 twin", y.isRedundant(3), 1);
        Due.is("p9 other twin", y.isRedundant(4), 1);
        PlaFolder z = new PlaFolder();
        z.addTerm(1, 0, 1);
        z.addTerm(0, 1, 1);
        z.addTerm(2, 0, 1);
        Due.is("p9 covered by two together", z.isRedundant(2), 1);
        Due.is("p9 isRedundant(3)", z.isRedundant(3), -2);
        Due.is("p9 isRedundant(-1)", z.isRedundant(-1), -2);
        for (int far : FAR) {
            Due.is("p9 isRedundant(" + far + ")", z.isRedundant(far), -2);
        }
        Due.is("p9 errorCount(-2)", z.errorCount(-2), 2 + FAR.length);
    }

    private static void p10RemoveRedundant() {
        PlaFolder x = new PlaFolder();
        x.addTerm(1, 0, 1);
        x.addTerm(1, 0, 1);
        x.addTerm(2, 0, 1);
        x.fold(0, 1);
        Due.is("p10 the higher twin goes", x.removeRedundant(), 1);
        Due.is("p10 folds", x.folds(), 0);
        Due.is("p10 uses(0)", x.uses(0), 1);
        Due.is("p10 uses(1)", x.uses(1), 2);
        Due.is("p10 undo", x.undo(), 4);
        Due.is("p10 folds back", x.folds(), 1);
        Due.is("p10 terms back", x.terms(), 3);
        x.removeRedundant();
        x.fold(1, 0);
        Due.is("p10 nothing to remove", x.removeRedundant(), 0);
        Due.is("p10 folds stay", x.folds(), 1);
        Due.is("p10 rows stay", x.termAt(0), 1);
        Due.is("p10 saved all the same", x.undo(), 4);
        Due.is("p10 folds stay", x.folds(), 1);
        PlaFolder y = new PlaFolder();
        Due.is("p10 of no term", y.removeRedundant(), 0);
        Due.is("p10 saved of no term", y.undo(), 0);
        y.setSize(2, 1);
        y.addTerm(1, 0, 1);
        y.addTerm(0, 1, 1);
        y.addTerm(2, 0, 1);
        y.addTerm(0, 2, 1);
        Due.is("p10 the highest first", y.removeRedundant(), 2);
        Due.is("p10 uses(0)", y.uses(0), 3);
        Due.is("p10 uses(1)", y.uses(1), 0);
        PlaFolder z = new PlaFolder();
        z.addTerm(1, 2, 1);
        z.addTerm(1, 0, 1);
        z.addTerm(8, 0, 1);
        z.fold(3, 0);
        Due.is("p10 inputs 0 and 1 share term 0", z.bestLower(0), 2);
        Due.is("p10 term 0 goes", z.removeRedundant(), 1);
        Due.is("p10 the best folding is another", z.bestLower(0), 1);
        rowsAre("p10 rows", z, new int[] {0, 1});
    }

    private static void p11Uses() {
        PlaFolder x = new PlaFolder();
        x.setSize(6, 4);
        x.addTerm(1, 32, 9);
        x.addTerm(33, 0, 8);
        x.addTerm(0, 0, 2);
        int[] want = {3, 0, 0, 0, 0, 3, 1, 4, 0, 3};
        for (int column = 0; column < 10; column++) {
            Due.is("p11 uses(" + column + ")", x.uses(column), want[column]);
        }
        Due.is("p11 uses(10)", x.uses(10), -2);
        Due.is("p11 uses(-1)", x.uses(-1), -2);
        x.setSize(3, 1);
        Due.is("p11 uses(3)", x.uses(3), -2);
        Due.is("p11 uses(5)", x.uses(5), -2);
        Due.is("p11 uses(6)", x.uses(6), 0);
        Due.is("p11 uses(7)", x.uses(7), -2);
        for (int far : FAR) {
            Due.is("p11 uses(" + far + ")", x.uses(far), -2);
        }
        Due.is("p11 errorCount(-2)", x.errorCount(-2), 5 + FAR.length);
    }

    private static void p12CanFold() {
        PlaFolder x = new PlaFolder();
        x.addTerm(1, 2, 1);
        x.addTerm(4, 0, 2);
        Due.is("p12 term in common", x.canFold(0, 1), 0);
        Due.is("p12 none in common", x.canFold(0, 2), 1);
        Due.is("p12 the other way", x.canFold(2, 0), 1);
        Due.is("p12 no terms", x.canFold(3, 0), 1);
        Due.is("p12 outputs", x.canFold(7, 6), 1);
        Due.is("p12 two kinds", x.canFold(3, 6), 0);
        Due.is("p12 two kinds", x.canFold(7, 0), 0);
        Due.is("p12 the same", x.canFold(3, 3), 0);
        Due.is("p12 the same", x.canFold(6, 6), 0);
        x.fold(0, 2);
        Due.is("p12 folded already", x.canFold(0, 2), 1);
        Due.is("p12 folded otherwise", x.canFold(0, 3), 1);
        Due.is("p12 infeasible", x.canFold(2, 0), 1);
        int[][] wrong = {{4, 0}, {0, 4}, {8, 6}, {6, 8}, {-1, 0}, {0, -1}, {10, 0}, {0, 10}, {4, 4}};
        for (int[] w : wrong) {
            Due.is("p12 canFold(" + w[0] + ", " + w[1] + ")", x.canFold(w[0], w[1]), -2);
        }
        for (int far : FAR) {
            Due.is("p12 canFold(" + far + ", 0)", x.canFold(far, 0), -2);
            Due.is("p12 canFold(0, " + far + ")", x.canFold(0, far), -2);
        }
        Due.is("p12 errorCount(-2)", x.errorCount(-2), wrong.length + 2 * FAR.length);
    }

    private static void p13Fold() {
        PlaFolder x = oneTermAnInput();
        Due.is("p13 fold(0, 1)", x.fold(0, 1), 1);
        Due.is("p13 fold(0, 2) upper taken", x.fold(0, 2), -3);
        Due.is("p13 fold(2, 0) upper taken", x.fold(2, 0), -3);
        Due.is("p13 fold(1, 2) lower taken", x.fold(1, 2), -3);
        Due.is("p13 fold(2, 1) lower taken", x.fold(2, 1), -3);
        Due.is("p13 fold(0, 1) again", x.fold(0, 1), -3);
        Due.is("p13 fold(2, 2) the same", x.fold(2, 2), -3);
        Due.is("p13 fold(2, 6) two kinds", x.fold(2, 6), -3);
        Due.is("p13 fold(6, 7)", x.fold(6, 7), 2);
        Due.is("p13 fold(0, 10)", x.fold(0, 10), -2);
        Due.is("p13 fold(-1, 0)", x.fold(-1, 0), -2);
        Due.is("p13 fold(10, 10)", x.fold(10, 10), -2);
        Due.is("p13 errorCount(-2)", x.errorCount(-2), 3);
        Due.is("p13 errorCount(-3)", x.errorCount(-3), 7);
        Due.is("p13 undo", x.undo(), 4);
        Due.is("p13 folds", x.folds(), 1);
        PlaFolder y = new PlaFolder();
        y.setSize(6, 1);
        y.addTerm(1, 32, 1);
        y.addTerm(2, 4, 1);
        y.addTerm(8, 16, 1);
        Due.is("p13 fold(0, 1)", y.fold(0, 1), 1);
        Due.is("p13 fold(2, 3)", y.fold(2, 3), 2);
        Due.is("p13 cycle of three", y.fold(4, 5), -4);
        Due.is("p13 folds after the cycle", y.folds(), 2);
        Due.is("p13 no fold of 4", y.partner(4), -1);
        Due.is("p13 errorCount(-4)", y.errorCount(-4), 1);
        Due.is("p13 taken comes before cycle", y.fold(1, 0), -3);
        Due.is("p13 the other way", y.fold(5, 4), 3);
        for (int far : FAR) {
            Due.is("p13 fold(" + far + ", 0)", y.fold(far, 0), -2);
            Due.is("p13 fold(0, " + far + ")", y.fold(0, far), -2);
        }
    }

    private static void p14Unfold() {
        PlaFolder x = oneTermAnInput();
        x.fold(1, 0);
        x.fold(3, 2);
        x.fold(6, 7);
        Due.is("p14 unfold of an upper", x.unfold(3), 2);
        Due.is("p14 partner(2)", x.partner(2), -1);
        Due.is("p14 partner(3)", x.partner(3), -1);
        Due.is("p14 unfold of a lower", x.unfold(0), 1);
        Due.is("p14 partner(1)", x.partner(1), -1);
        Due.is("p14 rows", x.termAt(0), 0);
        Due.is("p14 unfold again", x.unfold(0), -3);
        Due.is("p14 never folded", x.unfold(5), -3);
        Due.is("p14 errorCount(-3)", x.errorCount(-3), 2);
        Due.is("p14 undo", x.undo(), 4);
        Due.is("p14 partner(1) back", x.partner(1), 0);
        Due.is("p14 the unfold before stays", x.partner(3), -1);
        Due.is("p14 who is above", x.mustPrecede(1, 0), 1);
        Due.is("p14 unfold(10)", x.unfold(10), -2);
        Due.is("p14 unfold(-1)", x.unfold(-1), -2);
        for (int far : FAR) {
            Due.is("p14 unfold(" + far + ")", x.unfold(far), -2);
        }
        x.setSize(5, 3);
        Due.is("p14 unfold(5)", x.unfold(5), -2);
        Due.is("p14 unfold(9)", x.unfold(9), -2);
        Due.is("p14 errorCount(-2)", x.errorCount(-2), 4 + FAR.length);
    }

    private static void p15Partner() {
        PlaFolder x = oneTermAnInput();
        x.fold(4, 1);
        x.fold(9, 8);
        int[] want = {-1, 4, -1, -1, 1, -1, -1, -1, 9, 8};
        for (int column = 0; column < 10; column++) {
            Due.is("p15 partner(" + column + ")", x.partner(column), want[column]);
        }
        Due.is("p15 NONE is no error", x.errorCount(-2), 0);
        Due.is("p15 partner(10)", x.partner(10), -2);
        Due.is("p15 partner(-1)", x.partner(-1), -2);
        x.setSize(4, 2);
        Due.is("p15 partner(4)", x.partner(4), -2);
        Due.is("p15 partner(8)", x.partner(8), -2);
        for (int far : FAR) {
            Due.is("p15 partner(" + far + ")", x.partner(far), -2);
        }
        Due.is("p15 errorCount(-2)", x.errorCount(-2), 4 + FAR.length);
    }

    private static void p16Folds() {
        PlaFolder x = new PlaFolder();
        x.setSize(6, 4);
        for (int u = 0; u < 10; u += 2) {
            Due.is("p16 folds", x.folds(), u / 2);
            Due.is("p16 fold", x.fold(u, u + 1), u / 2 + 1);
        }
        Due.is("p16 folds", x.folds(), 5);
        x.unfold(3);
        Due.is("p16 folds", x.folds(), 4);
        x.foldBest();
        Due.is("p16 folds", x.folds(), 5);
        x.undo();
        Due.is("p16 folds", x.folds(), 4);
    }

    private static void p17TermAt() {
        PlaFolder x = oneTermAnInput();
        int[] plain = {0, 1, 2, 3, 4, 5};
        rowsAre("p17 without folds", x, plain);
        x.fold(5, 0);
        rowsAre("p17 0 below 5", x, new int[] {1, 2, 3, 4, 5, 0});
        x.fold(4, 2);
        rowsAre("p17 2 below 4", x, new int[] {1, 3, 4, 2, 5, 0});
        x.fold(3, 1);
        rowsAre("p17 1 below 3", x, new int[] {3, 1, 4, 2, 5, 0});
        Due.is("p17 termAt(6)", x.termAt(6), -2);
        Due.is("p17 termAt(-1)", x.termAt(-1), -2);
        for (int far : FAR) {
            Due.is("p17 termAt(" + far + ")", x.termAt(far), -2);
        }
        Due.is("p17 errorCount(-2)", x.errorCount(-2), 2 + FAR.length);
        x.addTerm(0, 0, 1);
        rowsAre("p17 after another term", x, new int[] {0, 1, 2, 3, 4, 5, 6});
    }

    private static void rowsAre(String text, PlaFolder x, int[] order) {
        for (int row = 0; row < order.length; row++) {
            Due.is(text + ": termAt(" + row + ")", x.termAt(row), order[row]);
            Due.is(text + ": rowOf(" + order[row] + ")", x.rowOf(order[row]), row);
        }
    }

    private static void p18RowOf() {
        PlaFolder x = new PlaFolder();
        Due.is("p18 rowOf(0) of none", x.rowOf(0), -2);
        x.addTerm(1, 0, 1);
        x.addTerm(0, 0, 2);
        x.addTerm(2, 0, 1);
        x.fold(1, 0);
        Due.is("p18 rowOf(0)", x.rowOf(0), 2);
        Due.is("p18 rowOf(1)", x.rowOf(1), 0);
        Due.is("p18 rowOf(2)", x.rowOf(2), 1);
        Due.is("p18 rowOf(3)", x.rowOf(3), -2);
        Due.is("p18 rowOf(-1)", x.rowOf(-1), -2);
        for (int far : FAR) {
            Due.is("p18 rowOf(" + far + ")", x.rowOf(far), -2);
        }
        Due.is("p18 errorCount(-2)", x.errorCount(-2), 3 + FAR.length);
        x.undo();
        Due.is("p18 rowOf(0) after undo", x.rowOf(0), 0);
    }

    private static void p19MustPrecede() {
        PlaFolder x = new PlaFolder();
        x.setSize(6, 1);
        x.addTerm(1, 0, 1);
        x.addTerm(2, 4, 1);
        x.addTerm(8, 16, 1);
        x.addTerm(32, 0, 1);
        x.addTerm(0, 0, 1);
        x.fold(4, 5);
        x.fold(0, 1);
        x.fold(2, 3);
        for (int a = 0; a < 5; a++) {
            for (int b = 0; b < 5; b++) {
                Due.is("p19 mustPrecede(" + a + ", " + b + ")", x.mustPrecede(a, b), a < b && b < 4 ? 1 : 0);
            }
        }
        Due.is("p19 mustPrecede(5, 0)", x.mustPrecede(5, 0), -2);
        Due.is("p19 mustPrecede(0, 5)", x.mustPrecede(0, 5), -2);
        Due.is("p19 mustPrecede(5, 5)", x.mustPrecede(5, 5), -2);
        Due.is("p19 mustPrecede(-1, 0)", x.mustPrecede(-1, 0), -2);
        Due.is("p19 mustPrecede(0, -1)", x.mustPrecede(0, -1), -2);
        for (int far : FAR) {
            Due.is("p19 mustPrecede(" + far + ", 0)", x.mustPrecede(far, 0), -2);
            Due.is("p19 mustPrecede(0, " + far + ")", x.mustPrecede(0, far), -2);
        }
        Due.is("p19 errorCount(-2)", x.errorCount(-2), 5 + 2 * FAR.length);
        x.unfold(2);
        Due.is("p19 the chain is cut", x.mustPrecede(0, 3), 0);
        Due.is("p19 the ends stay", x.mustPrecede(0, 1) + x.mustPrecede(2, 3), 2);
        PlaFolder y = new PlaFolder();
        y.addTerm(1, 0, 1);
        y.addTerm(4, 0, 1);
        y.fold(0, 1);
        y.fold(3, 2);
        Due.is("p19 an empty column demands nothing", y.mustPrecede(0, 1) + y.mustPrecede(1, 0), 0);
    }

    private static void p20Area() {
        PlaFolder x = oneTermAnInput();
        Due.is("p20 area", x.area(), 60);
        x.fold(0, 1);
        Due.is("p20 area", x.area(), 54);
        x.fold(6, 7);
        Due.is("p20 area", x.area(), 48);
        x.removeTerm(0);
        Due.is("p20 area", x.area(), 50);
        x.setSize(1, 1);
        Due.is("p20 area", x.area(), 0);
        x.addTerm(1, 0, 1);
        Due.is("p20 area", x.area(), 2);
    }

    private static void p21Span() {
        PlaFolder x = new PlaFolder();
        x.addTerm(1, 0, 1);
        x.addTerm(2, 0, 2);
        x.addTerm(2, 0, 2);
        x.addTerm(1, 4, 2);
        Due.is("p21 span(0)", x.span(0), 4);
        Due.is("p21 span(1)", x.span(1), 2);
        Due.is("p21 span(2)", x.span(2), 1);
        Due.is("p21 span(3)", x.span(3), 0);
        Due.is("p21 span(6)", x.span(6), 1);
        Due.is("p21 span(7)", x.span(7), 3);
        x.fold(1, 0);
        Due.is("p21 span(0) when folded", x.span(0), 2);
        Due.is("p21 span(7) when folded", x.span(7), 4);
        Due.is("p21 span(4)", x.span(4), -2);
        Due.is("p21 span(8)", x.span(8), -2);
        Due.is("p21 span(-1)", x.span(-1), -2);
        for (int far : FAR) {
            Due.is("p21 span(" + far + ")", x.span(far), -2);
        }
        Due.is("p21 errorCount(-2)", x.errorCount(-2), 3 + FAR.length);
    }

    private static void bestIs(String text, PlaFolder x, int[][] list) {
        Due.is(text + ": bestUpper(-1)", x.bestUpper(-1), list.length);
        for (int i = 0; i < list.length; i++) {
            Due.is(text + ": bestUpper(" + i + ")", x.bestUpper(i), list[i][0]);
            Due.is(text + ": bestLower(" + i + ")", x.bestLower(i), list[i][1]);
        }
        Due.is(text + ": past the end", x.bestUpper(list.length), -1);
        Due.is(text + ": past the end", x.bestLower(list.length), -1);
    }

    private static void p22p23Best() {
        PlaFolder x = new PlaFolder();
        x.setSize(5, 3);
        bestIs("p22 odd numbers of columns", x, new int[][] {{0, 1}, {2, 3}, {6, 7}});
        x.setSize(1, 1);
        bestIs("p22 nothing to fold", x, new int[][] {});
        x.setSize(3, 1);
        x.addTerm(3, 0, 1);
        bestIs("p22 not the first pair", x, new int[][] {{0, 2}});
        x.addTerm(1, 4, 1);
        bestIs("p22 not the first column", x, new int[][] {{1, 2}});
        x.addTerm(2, 4, 1);
        bestIs("p22 each pair has a common term", x, new int[][] {});
        // Input 0 fits input 2 alone, and with 0 above 2 input 3 must lie above 1.
        x.setSize(4, 1);
        x.addTerm(1 + 2, 0, 1);
        x.addTerm(1 + 8, 0, 1);
        x.addTerm(2 + 4, 0, 1);
        bestIs("p22 two folds with one way", x, new int[][] {{0, 2}, {3, 1}});
        // Feasible only if one upper column has the larger number: (0, 1) above, so 3 lies above 2.
        x.setSize(4, 1);
        x.addTerm(1, 8, 1);
        x.addTerm(2, 4, 1);
        bestIs("p22 the lower has the smaller number", x, new int[][] {{0, 1}, {3, 2}});
        // Inputs and outputs share the rows: the outputs must follow the inputs.
        x.setSize(2, 2);
        x.addTerm(1, 0, 2);
        x.addTerm(2, 0, 1);
        bestIs("p22 outputs follow the inputs", x, new int[][] {{0, 1}, {7, 6}});
        x.fold(1, 0);
        bestIs("p22 whatever is folded now", x, new int[][] {{0, 1}, {7, 6}});
        Due.is("p22 NONE is no error", x.errorCount(-2), 0);
        Due.is("p22 bestUpper(-2)", x.bestUpper(-2), -2);
        Due.is("p23 bestLower(-1)", x.bestLower(-1), -2);
        Due.is("p23 bestLower(-2)", x.bestLower(-2), -2);
        Due.is("p22 bestUpper(MIN)", x.bestUpper(Integer.MIN_VALUE), -2);
        Due.is("p23 bestLower(MIN)", x.bestLower(Integer.MIN_VALUE), -2);
        Due.is("p22 bestUpper(MAX)", x.bestUpper(Integer.MAX_VALUE), -1);
        Due.is("p23 bestLower(MAX)", x.bestLower(Integer.MAX_VALUE), -1);
        Due.is("p22 errorCount(-2)", x.errorCount(-2), 5);
        x.undo();
        x.undo();
        bestIs("p22 after undo", x, new int[][] {{0, 1}, {6, 7}});
    }

    private static void p23BestLowerAskedFirst() {
        PlaFolder x = new PlaFolder();
        Due.is("p23 bestLower(0) of a new object", x.bestLower(0), 1);
        x.addTerm(3, 0, 1);
        Due.is("p23 bestLower(0) after addTerm", x.bestLower(0), 2);
        x.removeTerm(0);
        Due.is("p23 bestLower(0) after removeTerm", x.bestLower(0), 1);
        x.undo();
        Due.is("p23 bestLower(0) after undo", x.bestLower(0), 2);
        x.setSize(1, 2);
        Due.is("p23 bestLower(0) after setSize", x.bestLower(0), 7);
    }

    private static void p24FoldBest() {
        PlaFolder x = new PlaFolder();
        x.addTerm(1, 8, 1);
        x.addTerm(2, 4, 2);
        x.fold(2, 0);
        Due.is("p24 foldBest", x.foldBest(), 6);
        Due.is("p24 folds", x.folds(), 3);
        Due.is("p24 partner(0)", x.partner(0), 1);
        Due.is("p24 partner(2)", x.partner(2), 3);
        Due.is("p24 partner(7)", x.partner(7), 6);
        Due.is("p24 3 is the upper one", x.mustPrecede(0, 1), 1);
        Due.is("p24 again", x.foldBest(), 6);
        Due.is("p24 folds", x.folds(), 3);
        Due.is("p24 undo of the second", x.undo(), 4);
        Due.is("p24 undo of the first", x.undo(), 3);
        Due.is("p24 folds", x.folds(), 1);
        Due.is("p24 partner(2)", x.partner(2), 0);
        Due.is("p24 rows", x.termAt(0), 1);
        x.setSize(1, 1);
        x.addTerm(1, 0, 1);
        Due.is("p24 nothing to fold", x.foldBest(), 2);
        Due.is("p24 saved all the same", x.undo(), 4);
    }

    private static void p25Undo() {
        PlaFolder x = new PlaFolder();
        Due.is("p25 undo of nothing", x.undo(), -6);
        for (int k = 0; k < 7; k++) {
            x.addTerm(k, 0, 1);
        }
        for (int left = 4; left >= 0; left--) {
            Due.is("p25 undo", x.undo(), left);
            Due.is("p25 terms", x.terms(), 2 + left);
        }
        Due.is("p25 the oldest are dropped", x.undo(), -6);
        Due.is("p25 errorCount(-6)", x.errorCount(-6), 2);
        Due.is("p25 terms", x.terms(), 2);
        x.addTerm(1, 1, 1);
        x.fold(0, 6);
        Due.is("p25 an error saves nothing", x.undo(), -6);
        x.setSize(5, 3);
        x.addTerm(16, 0, 4);
        x.undo();
        x.undo();
        Due.is("p25 counters are not brought back", x.errorCount(-2), 1);
        Due.is("p25 inputs", x.uses(4), -2);
        Due.is("p25 outputs", x.uses(8), -2);
        Due.is("p25 terms", x.terms(), 2);
        Due.is("p25 evaluate(1)", x.evaluate(1), 1);
    }

    private static void p26ErrorCount() {
        PlaFolder x = full();
        x.addTerm(0, 0, 1);
        x.addTerm(0, 0, 1);
        x.fold(0, 0);
        x.unfold(0);
        x.unfold(9);
        for (int k = 0; k < 6; k++) {
            x.undo();
        }
        x.setSize(2, 2);
        x.addTerm(1, 0, 1);
        x.addTerm(2, 0, 2);
        x.fold(0, 1);
        x.fold(7, 6);
        Due.is("p26 errorCount(-2)", x.errorCount(-2), 1);
        Due.is("p26 errorCount(-3)", x.errorCount(-3), 2);
        Due.is("p26 errorCount(-4)", x.errorCount(-4), 1);
        Due.is("p26 errorCount(-5)", x.errorCount(-5), 2);
        Due.is("p26 errorCount(-6)", x.errorCount(-6), 1);
        Due.is("p26 errorCount(-1)", x.errorCount(-1), -2);
        Due.is("p26 errorCount(-7)", x.errorCount(-7), -2);
        Due.is("p26 errorCount(0)", x.errorCount(0), -2);
        for (int far : FAR) {
            Due.is("p26 errorCount(" + far + ")", x.errorCount(far), -2);
        }
        Due.is("p26 errorCount(-2) after wrong codes", x.errorCount(-2), 4 + FAR.length);
    }

    private static void p27Digest() {
        PlaFolder x = new PlaFolder();
        x.setSize(2, 2);
        x.addTerm(1, 0, 2);
        x.addTerm(2, 0, 1);
        x.addTerm(2, 0, 1);
        x.fold(1, 0);
        x.fold(6, 7);
        x.fold(6, 0);
        x.undo();
        x.uses(9);
        long want = hash(1, 1, 0, 0, 0, 2, 2, 3,
            1, 0, 2, 0, 2,
            2, 0, 1, 1, 0,
            2, 0, 1, 1, 1,
            1, 1, 1,
            6, 0, 2,
            6, -1, 2,
            1, -1, 1,
            9, 2, 0, 1, 7, 6, 4);
        Due.is("p27 digest", x.digest(), want);
        Due.is("p27 digest changes nothing", x.digest(), want);
        x.setSize(1, 1);
        Due.is("p27 digest of the smallest", x.digest(),
            hash(1, 1, 0, 0, 0, 1, 1, 0, 0, -1, 0, 0, -1, 0, 0, 0, 5));
    }

    public static void main(String[] args) {
        p1NewObject();
        p2SetSize();
        p3AddTerm();
        p4RemoveTerm();
        p5Terms();
        p6Literals();
        p7Evaluate();
        p8OnCount();
        p9IsRedundant();
        p10RemoveRedundant();
        p11Uses();
        p12CanFold();
        p13Fold();
        p14Unfold();
        p15Partner();
        p16Folds();
        p17TermAt();
        p18RowOf();
        p19MustPrecede();
        p20Area();
        p21Span();
        p22p23Best();
        p23BestLowerAskedFirst();
        p24FoldBest();
        p25Undo();
        p26ErrorCount();
        p27Digest();
        Due.finish();
    }
}
