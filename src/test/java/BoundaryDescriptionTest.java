// The boundary cases that the document's description names, a test for each of its sentences.
public final class BoundaryDescriptionTest {
    private static void say(String head, String words, Runnable test) {
        Sentence.holds(head, words, test);
    }

    // ---- What it is

    private static void fiveHundredAndTwelveCalls() {
        PlaFolder x = new PlaFolder();
        for (int call = 1; call <= 511; call++) {
            Due.is("call " + call + ", undo()", x.undo(), -6);
        }
        Due.is("call 512, errorCount(-6)", x.errorCount(-6), 511);
        PlaFolder y = new PlaFolder();
        for (int call = 1; call <= 510; call++) {
            y.setSize(1 + call % 6, 1 + call % 4);
        }
        Due.is("call 511, undo()", y.undo(), 4);
        Due.is("call 512, evaluate(63) of the size of call 509", y.evaluate(63), 0);
        PlaFolder z = new PlaFolder();
        for (int call = 1; call <= 511; call++) {
            z.foldBest();
        }
        Due.is("call 512, folds()", z.folds(), 3);
    }

    // ---- Array

    private static void leastAndMostSize() {
        PlaFolder x = new PlaFolder();
        int[][] corners = {{1, 1}, {6, 1}, {1, 4}, {6, 4}};
        for (int[] c : corners) {
            Due.is("setSize(" + c[0] + ", " + c[1] + ")", x.setSize(c[0], c[1]), 0);
            Due.is("addTerm of all inputs and outputs", x.addTerm((1 << c[0]) - 1, 0, (1 << c[1]) - 1), 0);
            Due.is("evaluate of the last word", x.evaluate((1 << c[0]) - 1), (1 << c[1]) - 1);
            Due.is("area()", x.area(), c[0] + c[1]);
            x.removeTerm(0);
        }
        int[][] outside = {{0, 1}, {7, 1}, {1, 0}, {1, 5}, {0, 4}, {7, 4}, {6, 0}, {6, 5}};
        for (int[] o : outside) {
            Due.is("setSize(" + o[0] + ", " + o[1] + ")", x.setSize(o[0], o[1]), -2);
        }
        Due.is("the size stays", x.uses(5) + x.uses(9), 0);
    }

    private static void sizeAtFirst() {
        PlaFolder x = new PlaFolder();
        int[] want = {0, 0, 0, 0, -2, -2, 0, 0, -2, -2};
        for (int column = 0; column < 10; column++) {
            Due.is("uses(" + column + ")", x.uses(column), want[column]);
        }
    }

    private static void atMostTenTerms() {
        int[][] sizes = {{1, 1}, {4, 2}, {6, 4}};
        for (int[] s : sizes) {
            PlaFolder x = Samples.sized(s[0], s[1]);
            for (int k = 0; k < 10; k++) {
                Due.is("addTerm", x.addTerm(0, 0, 1), k);
            }
            Due.is("addTerm, the eleventh", x.addTerm(0, 0, 1), -5);
            Due.is("terms()", x.terms(), 10);
        }
    }

    private static void numberedFromZero() {
        PlaFolder x = Samples.sized(6, 1);
        for (int k = 0; k < 10; k++) {
            Due.is("addTerm, the number", x.addTerm((1 << k % 7) - 1, 0, 1), k);
        }
        for (int k = 0; k < 10; k++) {
            Due.is("literals(" + k + ")", x.literals(k), k % 7);
        }
    }

    private static void disjointSets() {
        PlaFolder x = Samples.sized(6, 1);
        for (int ones = 0; ones < 64; ones += 3) {
            for (int zeros = 0; zeros < 64; zeros += 7) {
                int answer = x.addTerm(ones, zeros, 1);
                Due.is("addTerm(" + ones + ", " + zeros + ", 1) refused", answer == -2 ? 1 : 0,
                    (ones & zeros) == 0 ? 0 : 1);
            }
        }
    }

    private static void emptySets() {
        PlaFolder x = Samples.sized(6, 1);
        Due.is("addTerm(0, 0, 1)", x.addTerm(0, 0, 1), 0);
        Due.is("literals(0)", x.literals(0), 0);
        Due.is("onCount(0)", x.onCount(0), 64);
        x.setSize(6, 1);
        Due.is("addTerm(1, 0, 1)", x.addTerm(1, 0, 1), 0);
        Due.is("onCount(0)", x.onCount(0), 32);
        x.setSize(6, 1);
        Due.is("addTerm(0, 1, 1)", x.addTerm(0, 1, 1), 0);
        Due.is("onCount(0)", x.onCount(0), 32);
    }

    private static void someOutput() {
        PlaFolder x = Samples.sized(6, 4);
        Due.is("addTerm(1, 2, 0)", x.addTerm(1, 2, 0), -2);
        for (int k = 0; k < 4; k++) {
            Due.is("addTerm of output " + k + " alone", x.addTerm(1, 2, 1 << k), k);
        }
        Due.is("addTerm of all outputs", x.addTerm(1, 2, 15), 4);
    }

    private static void bitOfEachInputAndOutput() {
        for (int k = 0; k < 6; k++) {
            PlaFolder x = Samples.sized(6, 4);
            x.addTerm(1 << k, 0, 1 << k % 4);
            for (int column = 0; column < 10; column++) {
                boolean used = column == k || column == 6 + k % 4;
                Due.is("input " + k + ": uses(" + column + ")", x.uses(column), used ? 1 : 0);
            }
            Due.is("input " + k + " alone is 1", x.evaluate(1 << k), 1 << k % 4);
            Due.is("input " + k + " alone is 0", x.evaluate(63 - (1 << k)), 0);
        }
    }

    private static void demandsOfATerm() {
        PlaFolder x = Samples.sized(6, 1);
        x.addTerm(1 + 32, 2 + 16, 1);
        for (int word = 0; word < 64; word++) {
            boolean isTrue = (word & 1) != 0 && (word & 32) != 0 && (word & 2) == 0 && (word & 16) == 0;
            Due.is("evaluate(" + word + ")", x.evaluate(word), isTrue ? 1 : 0);
        }
    }

    private static void atLeastOneTerm() {
        PlaFolder x = Samples.sized(2, 2);
        Due.is("evaluate(3), no term", x.evaluate(3), 0);
        x.addTerm(3, 0, 1);
        x.addTerm(0, 0, 2);
        Due.is("evaluate(3), a term each", x.evaluate(3), 3);
        Due.is("evaluate(1), a true term of the other output alone", x.evaluate(1), 2);
        x.addTerm(1, 0, 1);
        Due.is("evaluate(3), two terms of output 0", x.evaluate(3), 3);
        x.addTerm(2, 0, 1);
        Due.is("evaluate(3), three terms of output 0", x.evaluate(3), 3);
        Due.is("evaluate(2), the last term alone", x.evaluate(2), 3);
    }

    private static void bitOfEachOutput() {
        for (int k = 0; k < 4; k++) {
            PlaFolder x = Samples.sized(1, 4);
            x.addTerm(1, 0, 1 << k);
            Due.is("output " + k + " for 1", x.evaluate(1), 1 << k);
            Due.is("output " + k + " for 0", x.evaluate(0), 0);
            Due.is("onCount(" + k + ")", x.onCount(k), 1);
        }
    }

    // ---- Columns

    private static void inputColumns() {
        for (int inputs = 1; inputs <= 6; inputs++) {
            PlaFolder x = Samples.sized(inputs, 4);
            for (int k = 0; k < inputs; k++) {
                x.addTerm(1 << k, 0, 1);
            }
            for (int k = 0; k < 6; k++) {
                Due.is(inputs + " inputs: uses(" + k + ")", x.uses(k), k < inputs ? 1 << k : -2);
            }
        }
    }

    private static void outputColumns() {
        for (int outputs = 1; outputs <= 4; outputs++) {
            PlaFolder x = Samples.sized(1, outputs);
            for (int k = 0; k < outputs; k++) {
                x.addTerm(0, 0, 1 << k);
            }
            for (int k = 0; k < 5; k++) {
                Due.is(outputs + " outputs: uses(" + (6 + k) + ")", x.uses(6 + k), k < outputs ? 1 << k : -2);
            }
        }
    }

    private static void inputColumnUses() {
        PlaFolder x = Samples.sized(6, 1);
        x.addTerm(32, 0, 1);
        x.addTerm(0, 32, 1);
        x.addTerm(31, 0, 1);
        Due.is("uses(5), 1 or 0 of the input", x.uses(5), 3);
        Due.is("uses(0)", x.uses(0), 4);
    }

    private static void outputColumnUses() {
        PlaFolder x = Samples.sized(6, 4);
        x.addTerm(0, 0, 8);
        x.addTerm(63, 0, 7);
        x.addTerm(0, 63, 15);
        Due.is("uses(9)", x.uses(9), 5);
        Due.is("uses(6)", x.uses(6), 6);
    }

    // ---- Redundancy

    private static void needForOneWord() {
        for (int word = 0; word < 64; word++) {
            PlaFolder x = Samples.sized(6, 1);
            for (int k = 0; k < 6; k++) {
                int bit = word & 1 << k;
                x.addTerm(bit ^ 1 << k, bit, 1);
            }
            x.addTerm(0, 0, 1);
            Due.is("needed for the word " + word + " alone", x.isRedundant(6), 0);
            x.addTerm(word, 63 - word, 1);
            Due.is("needed for no word once " + word + " is covered", x.isRedundant(6), 1);
        }
        for (int k = 0; k < 4; k++) {
            PlaFolder y = Samples.sized(1, 4);
            y.addTerm(0, 0, 15);
            y.addTerm(0, 0, 15 - (1 << k));
            Due.is("needed for output " + k + " alone", y.isRedundant(0), 0);
            y.addTerm(0, 0, 1 << k);
            Due.is("needed for no output", y.isRedundant(0), 1);
        }
    }

    // ---- Folding

    private static void foldOfDifferentColumns() {
        PlaFolder x = Samples.sized(6, 4);
        for (int column = 0; column < 10; column++) {
            Due.is("fold(" + column + ", " + column + ")", x.fold(column, column), -3);
        }
    }

    private static void foldOfColumnsThatExist() {
        PlaFolder x = new PlaFolder();
        int[][] missing = {{4, 0}, {0, 4}, {5, 4}, {8, 6}, {6, 8}, {9, 8}, {-1, 0}, {0, -1}, {10, 6}, {6, 10}};
        for (int[] m : missing) {
            Due.is("fold(" + m[0] + ", " + m[1] + ")", x.fold(m[0], m[1]), -2);
        }
        Due.is("folds()", x.folds(), 0);
    }

    private static void foldOfOneKind() {
        PlaFolder x = Samples.sized(6, 4);
        for (int input = 0; input < 6; input++) {
            for (int output = 6; output < 10; output++) {
                Due.is("fold(" + input + ", " + output + ")", x.fold(input, output), -3);
                Due.is("fold(" + output + ", " + input + ")", x.fold(output, input), -3);
            }
        }
        Due.is("fold(5, 0), both inputs", x.fold(5, 0), 1);
        Due.is("fold(6, 9), both outputs", x.fold(6, 9), 2);
    }

    private static void foldWithoutCommonTerm() {
        PlaFolder x = Samples.sized(3, 3);
        for (int k = 0; k < 9; k++) {
            x.addTerm(k % 2 == 0 ? 1 : 2, 0, k % 2 == 0 ? 1 : 2);
        }
        x.addTerm(1, 2, 3);
        Due.is("fold(0, 1), the last term in common", x.fold(0, 1), -3);
        Due.is("fold(6, 7), the last term in common", x.fold(6, 7), -3);
        x.removeTerm(9);
        Due.is("fold(0, 1), no term in common", x.fold(0, 1), 1);
        Due.is("fold(6, 7), no term in common", x.fold(6, 7), 2);
        PlaFolder y = Samples.sized(3, 3);
        y.addTerm(1, 0, 1);
        Due.is("fold(1, 2), no terms at all", y.fold(1, 2), 1);
        Due.is("fold(6, 8), no terms of one", y.fold(6, 8), 2);
    }

    private static void upperLiesAbove() {
        PlaFolder x = new PlaFolder();
        x.addTerm(1, 0, 1);
        x.addTerm(2, 0, 1);
        x.fold(1, 0);
        Due.is("rowOf(1), the upper", x.rowOf(1), 0);
        Due.is("rowOf(0), the lower", x.rowOf(0), 1);
        x.unfold(0);
        x.fold(0, 1);
        Due.is("rowOf(0), the upper", x.rowOf(0), 0);
        Due.is("mustPrecede(0, 1)", x.mustPrecede(0, 1), 1);
    }

    private static void atMostOneFold() {
        PlaFolder x = Samples.sized(6, 4);
        x.fold(0, 5);
        x.fold(6, 9);
        for (int other = 1; other < 5; other++) {
            Due.is("fold(0, " + other + ")", x.fold(0, other), -3);
            Due.is("fold(5, " + other + ")", x.fold(5, other), -3);
            Due.is("fold(" + other + ", 0)", x.fold(other, 0), -3);
            Due.is("fold(" + other + ", 5)", x.fold(other, 5), -3);
        }
        Due.is("fold(0, 5), as it is", x.fold(0, 5), -3);
        Due.is("fold(5, 0), upside down", x.fold(5, 0), -3);
        Due.is("fold(9, 7)", x.fold(9, 7), -3);
        Due.is("fold(7, 6)", x.fold(7, 6), -3);
        Due.is("folds()", x.folds(), 2);
    }

    private static void eachTermAboveEachTerm() {
        PlaFolder x = Samples.sized(6, 1);
        for (int k = 0; k < 10; k++) {
            x.addTerm(k < 5 ? 1 : 2, 0, 1);
        }
        x.fold(1, 0);
        for (int upper = 5; upper < 10; upper++) {
            for (int lower = 0; lower < 5; lower++) {
                Due.is("mustPrecede(" + upper + ", " + lower + ")", x.mustPrecede(upper, lower), 1);
                Due.is("mustPrecede(" + lower + ", " + upper + ")", x.mustPrecede(lower, upper), 0);
            }
        }
        Due.is("termAt(0)", x.termAt(0), 5);
        Due.is("termAt(4)", x.termAt(4), 9);
        Due.is("termAt(5)", x.termAt(5), 0);
        Due.is("termAt(9)", x.termAt(9), 4);
    }

    private static void feasibleSets() {
        PlaFolder x = Samples.sized(6, 4);
        Due.is("five folds without a demand", foldAll(x), 5);
        PlaFolder y = Samples.chain();
        Due.is("fold(8, 9), no order is left", y.fold(8, 9), -4);
        Due.is("fold(9, 8), the same order", y.fold(9, 8), 5);
        PlaFolder z = Samples.sized(4, 1);
        z.addTerm(1, 4, 1);
        z.addTerm(2, 0, 1);
        Due.is("fold(0, 1), 0 above 1", z.fold(0, 1), 1);
        Due.is("fold(3, 2), a column without terms demands nothing", z.fold(3, 2), 2);
    }

    private static int foldAll(PlaFolder x) {
        int last = 0;
        for (int u = 1; u < 10; u += 2) {
            last = x.fold(u, u - 1);
        }
        return last;
    }

    private static void feasibleAtAnyTime() {
        PlaFolder x = Samples.chainOfTerms();
        PlaFolder y = Samples.chainOfTerms();
        int made = 0;
        for (int u = 0; u < 10; u++) {
            for (int v = 0; v < 10; v++) {
                if (x.fold(u, v) > 0) {
                    made++;
                    demandHolds(x, u, v);
                }
                if (y.fold(9 - u, 9 - v) > 0) {
                    made++;
                    demandHolds(y, 9 - u, 9 - v);
                }
            }
        }
        Due.is("folds made", made, x.folds() + y.folds());
        x.foldBest();
        for (int i = 0; i < x.bestUpper(-1); i++) {
            demandHolds(x, x.bestUpper(i), x.bestLower(i));
        }
        x.undo();
        x.undo();
        Due.is("folds() before the last one", x.folds(), made - y.folds() - 1);
    }

    private static void demandHolds(PlaFolder x, int u, int v) {
        int upper = x.uses(u);
        int lower = x.uses(v);
        int terms = x.terms();
        for (int a = 0; a < terms; a++) {
            for (int b = 0; b < terms; b++) {
                if ((upper >> a & 1) == 1 && (lower >> b & 1) == 1) {
                    Due.is("(" + u + ", " + v + "): term " + a + " above term " + b,
                        x.rowOf(a) < x.rowOf(b) ? 1 : 0, 1);
                }
            }
        }
    }

    private static void noFoldsAtFirst() {
        PlaFolder x = new PlaFolder();
        Due.is("folds()", x.folds(), 0);
        for (int column : new int[] {0, 1, 2, 3, 6, 7}) {
            Due.is("partner(" + column + ")", x.partner(column), -1);
            Due.is("unfold(" + column + ")", x.unfold(column), -3);
        }
    }

    private static void rowsFromTheTop() {
        PlaFolder x = Samples.sized(6, 1);
        for (int k = 0; k < 6; k++) {
            x.addTerm(1 << k, 0, 1);
        }
        rows("no demand", x, 0, 1, 2, 3, 4, 5);
        x.fold(5, 0);
        rows("5 above 0", x, 1, 2, 3, 4, 5, 0);
        x.fold(4, 1);
        rows("4 above 1", x, 2, 3, 4, 1, 5, 0);
        x.fold(3, 2);
        rows("3 above 2", x, 3, 2, 4, 1, 5, 0);
        x.unfold(0);
        rows("5 and 0 are free", x, 0, 3, 2, 4, 1, 5);
    }

    private static void rows(String text, PlaFolder x, int... order) {
        for (int row = 0; row < order.length; row++) {
            Due.is(text + ": termAt(" + row + ")", x.termAt(row), order[row]);
            Due.is(text + ": rowOf(" + order[row] + ")", x.rowOf(order[row]), row);
        }
        Due.is(text + ": past the bottom", x.termAt(order.length), -2);
    }

    // ---- Changes and folds

    private static void changesRemoveAllFolds() {
        PlaFolder x = Samples.sized(6, 4);
        foldAll(x);
        x.addTerm(0, 0, 1);
        Due.is("folds() after addTerm", x.folds(), 0);
        foldAll(x);
        x.removeTerm(0);
        Due.is("folds() after removeTerm", x.folds(), 0);
        foldAll(x);
        x.setSize(6, 4);
        Due.is("folds() after setSize to the same", x.folds(), 0);
        foldAll(x);
        x.setSize(5, 4);
        Due.is("folds() after setSize to another", x.folds(), 0);
        Due.is("partner(4)", x.partner(4), -1);
    }

    private static void refusedChangesRemoveNone() {
        PlaFolder x = Samples.fullAndFolded();
        x.addTerm(0, 0, 1);
        Due.is("folds() after FULL", x.folds(), 5);
        x.addTerm(1, 1, 1);
        Due.is("folds() after a wrong term", x.folds(), 5);
        x.removeTerm(10);
        Due.is("folds() after a wrong removal", x.folds(), 5);
        x.setSize(7, 4);
        Due.is("folds() after a wrong size", x.folds(), 5);
    }

    // ---- Area

    private static void termsTimesTracks() {
        PlaFolder x = Samples.sized(6, 4);
        for (int terms = 0; terms < 10; terms++) {
            Due.is("area() of " + terms, x.area(), terms * 10);
            x.addTerm(0, 0, 1);
        }
        Due.is("area() of ten", x.area(), 100);
    }

    private static void tracksOfEachSize() {
        for (int inputs = 1; inputs <= 6; inputs++) {
            for (int outputs = 1; outputs <= 4; outputs++) {
                PlaFolder x = Samples.sized(inputs, outputs);
                x.addTerm(0, 0, 1);
                Due.is("area() of size " + inputs + ", " + outputs, x.area(), inputs + outputs);
                int folds = inputs / 2 + outputs / 2;
                Due.is("with all folds", x.foldBest(), inputs + outputs - folds);
                Due.is("area() with all folds", x.area(), inputs + outputs - folds);
            }
        }
    }

    // ---- Best folding

    private static void best(String text, PlaFolder x, int[]... list) {
        Due.is(text + ": bestUpper(-1)", x.bestUpper(-1), list.length);
        for (int i = 0; i < list.length; i++) {
            Due.is(text + ": bestUpper(" + i + ")", x.bestUpper(i), list[i][0]);
            Due.is(text + ": bestLower(" + i + ")", x.bestLower(i), list[i][1]);
        }
        Due.is(text + ": past its end", x.bestUpper(list.length), -1);
        Due.is(text + ": past its end", x.bestLower(list.length), -1);
    }

    private static int[] f(int u, int v) {
        return new int[] {u, v};
    }

    private static void orderedByUpper() {
        PlaFolder x = Samples.sized(4, 1);
        x.addTerm(1 + 4, 0, 1);
        x.addTerm(2 + 8, 0, 1);
        best("0 and 2 above 1 and 3", x, f(0, 1), f(2, 3));
        PlaFolder y = Samples.sized(4, 2);
        y.addTerm(1, 8, 2);
        y.addTerm(2, 4, 1);
        best("3 lies above 2 and 7 above 6", y, f(0, 1), f(3, 2), f(7, 6));
    }

    private static void smallerUpperFirst() {
        // Each of two folds goes alone: (1, 2), and (0, 3) with the greater lower column.
        PlaFolder x = Samples.sized(4, 1);
        x.addTerm(1 + 2, 0, 1);
        x.addTerm(1 + 4, 0, 1);
        x.addTerm(2 + 8, 0, 1);
        x.addTerm(4 + 8, 0, 1);
        best("0 before 1, 2 and 3, though its lower is the last", x, f(0, 3));
    }

    private static void smallerLowerFirst() {
        PlaFolder x = Samples.sized(3, 1);
        best("1 before 2", x, f(0, 1));
        x.addTerm(1 + 2, 0, 1);
        best("2, as 1 shares a term", x, f(0, 2));
        PlaFolder y = Samples.sized(1, 3);
        best("7 before 8", y, f(6, 7));
    }

    private static void mostFoldsWin() {
        // The fold (0, 1) leaves 2 and 3, which share a term; (0, 2) leaves 1 and 3.
        PlaFolder x = Samples.sized(4, 1);
        x.addTerm(4 + 8, 0, 1);
        best("two folds before the first fold", x, f(0, 2), f(1, 3));
        // Column 0 folds with 5 alone; then 4 can fold too, but no output: three folds go without column 0.
        PlaFolder z = Samples.sized(6, 4);
        z.addTerm(1 + 2 + 4 + 8, 0, 1 + 2 + 4);
        z.addTerm(1 + 2 + 16, 0, 1 + 8);
        z.addTerm(2 + 16 + 32, 0, 2 + 4);
        best("three folds without the first column", z, f(2, 4), f(3, 5), f(7, 9));
        Due.is("fold(0, 5)", z.fold(0, 5), 1);
        best("no fold of the smallest", Samples.sized(1, 1));
        PlaFolder y = Samples.sized(6, 4);
        y.addTerm(63, 0, 15);
        best("no fold where all share a term", y);
        best("five folds of the largest", Samples.sized(6, 4), f(0, 1), f(2, 3), f(4, 5), f(6, 7), f(8, 9));
    }

    private static void feasibleAlone() {
        // Without the order of the rows (0, 1) and (2, 3) and (6, 7) would be the first.
        PlaFolder x = Samples.sized(4, 2);
        x.addTerm(1, 8, 1);
        x.addTerm(2, 4, 2);
        best("the upper columns share the term 0", x, f(0, 1), f(3, 2), f(6, 7));
    }

    private static void firstOfSeveral() {
        PlaFolder x = Samples.sized(5, 3);
        best("one input and one output are left", x, f(0, 1), f(2, 3), f(6, 7));
        x.addTerm(1 + 2, 0, 1 + 2);
        best("0 and 1, and 6 and 7, share the term", x, f(0, 2), f(1, 3), f(6, 8));
        x.addTerm(1 + 4, 0, 1 + 4);
        best("0 and 2, and 6 and 8, share a term too", x, f(0, 3), f(1, 2), f(7, 8));
    }

    // ---- Undo

    private static void successfulCallsSave() {
        PlaFolder x = new PlaFolder();
        int[] left = {0, 1, 2, 3, 4};
        x.setSize(3, 3);
        x.addTerm(1, 0, 1);
        x.addTerm(2, 0, 1);
        x.fold(0, 1);
        x.unfold(1);
        for (int i = 4; i >= 0; i--) {
            Due.is("undo()", x.undo(), left[i]);
        }
        x.addTerm(1, 0, 1);
        x.removeTerm(0);
        x.removeRedundant();
        x.foldBest();
        for (int i = 3; i >= 0; i--) {
            Due.is("undo()", x.undo(), left[i]);
        }
    }

    private static void questionsSaveNothing() {
        PlaFolder x = new PlaFolder();
        x.addTerm(1, 0, 1);
        x.terms();
        x.literals(0);
        x.evaluate(0);
        x.onCount(0);
        x.isRedundant(0);
        x.uses(0);
        x.canFold(0, 1);
        x.partner(0);
        x.folds();
        x.termAt(0);
        x.rowOf(0);
        x.mustPrecede(0, 0);
        x.area();
        x.span(0);
        x.bestUpper(0);
        x.bestLower(0);
        x.errorCount(-2);
        x.digest();
        Due.is("undo()", x.undo(), 0);
    }

    private static void savedThoughNothingChanges() {
        Twins.undoable("setSize(4, 2) of a new object", Samples::fresh, x -> x.setSize(4, 2), 0);
        Twins.undoable("removeRedundant() of a new object", Samples::fresh, PlaFolder::removeRedundant, 0);
        Twins.undoable("foldBest() of the smallest", () -> Samples.sized(1, 1), PlaFolder::foldBest, 0);
        PlaFolder x = new PlaFolder();
        x.removeRedundant();
        x.setSize(4, 2);
        x.foldBest();
        x.foldBest();
        Due.is("undo(), the second foldBest", x.undo(), 3);
        Due.is("folds()", x.folds(), 3);
        Due.is("undo(), the first foldBest", x.undo(), 2);
        Due.is("folds()", x.folds(), 0);
        Due.is("undo(), setSize", x.undo(), 1);
        Due.is("undo(), removeRedundant", x.undo(), 0);
    }

    private static void atMostFiveStates() {
        PlaFolder x = new PlaFolder();
        for (int k = 0; k < 5; k++) {
            x.addTerm(0, 0, 1);
        }
        Due.is("undo() after five", x.undo(), 4);
        x.addTerm(0, 0, 1);
        x.addTerm(0, 0, 1);
        Due.is("undo() after six", x.undo(), 4);
        for (int left = 3; left >= 0; left--) {
            Due.is("undo()", x.undo(), left);
        }
        Due.is("undo() of none", x.undo(), -6);
        Due.is("terms(), one state was dropped", x.terms(), 1);
    }

    private static void oldestIsDropped() {
        PlaFolder x = new PlaFolder();
        for (int k = 0; k < 10; k++) {
            x.addTerm(0, 0, 1);
        }
        for (int terms = 9; terms >= 5; terms--) {
            x.undo();
            Due.is("terms()", x.terms(), terms);
        }
        Due.is("undo() of a state that was dropped", x.undo(), -6);
        Due.is("terms()", x.terms(), 5);
    }

    private static void sizeTermsAndFoldsComeBack() {
        Twins.undoable("setSize(1, 1)", Samples::fullAndFolded, x -> x.setSize(1, 1), 10);
        PlaFolder x = Samples.fullAndFolded();
        x.uses(10);
        x.setSize(1, 1);
        x.uses(1);
        x.undo();
        Due.is("uses(5), the size", x.uses(5), 32);
        Due.is("terms()", x.terms(), 10);
        Due.is("folds()", x.folds(), 5);
        Due.is("rowOf(0)", x.rowOf(0), 1);
        Due.is("errorCount(-2), no part of the state", x.errorCount(-2), 2);
        PlaFolder y = Samples.full();
        y.setSize(5, 3);
        y.addTerm(0, 31, 7);
        y.addTerm(31, 0, 7);
        for (int left = 4; left >= 2; left--) {
            Due.is("undo()", y.undo(), left);
        }
        Sight.same("the terms were written over", new Sight(y), new Sight(Samples.full()));
    }

    // ---- Errors

    private static void refusedOfEachMethod() {
        Twins.refused("setSize(7, 1)", Samples::worked, x -> x.setSize(7, 1), -2);
        Twins.refused("addTerm(32, 0, 1)", Samples::worked, x -> x.addTerm(32, 0, 1), -2);
        Twins.refused("addTerm(0, 0, 1)", Samples::fullAndFolded, x -> x.addTerm(0, 0, 1), -5);
        Twins.refused("removeTerm(4)", Samples::worked, x -> x.removeTerm(4), -2);
        Twins.refused("literals(4)", Samples::worked, x -> x.literals(4), -2);
        Twins.refused("evaluate(32)", Samples::worked, x -> x.evaluate(32), -2);
        Twins.refused("onCount(3)", Samples::worked, x -> x.onCount(3), -2);
        Twins.refused("isRedundant(4)", Samples::worked, x -> x.isRedundant(4), -2);
        Twins.refused("uses(5)", Samples::worked, x -> x.uses(5), -2);
        Twins.refused("canFold(5, 0)", Samples::worked, x -> x.canFold(5, 0), -2);
        Twins.refused("fold(5, 0)", Samples::worked, x -> x.fold(5, 0), -2);
        Twins.refused("fold(4, 0)", Samples::worked, x -> x.fold(4, 0), -3);
        Twins.refused("fold(8, 9)", Samples::chain, x -> x.fold(8, 9), -4);
        Twins.refused("unfold(5)", Samples::worked, x -> x.unfold(5), -2);
        Twins.refused("unfold(4)", Samples::worked, x -> x.unfold(4), -3);
        Twins.refused("partner(5)", Samples::worked, x -> x.partner(5), -2);
        Twins.refused("termAt(4)", Samples::worked, x -> x.termAt(4), -2);
        Twins.refused("rowOf(4)", Samples::worked, x -> x.rowOf(4), -2);
        Twins.refused("mustPrecede(0, 4)", Samples::worked, x -> x.mustPrecede(0, 4), -2);
        Twins.refused("span(5)", Samples::worked, x -> x.span(5), -2);
        Twins.refused("bestUpper(-2)", Samples::worked, x -> x.bestUpper(-2), -2);
        Twins.refused("bestLower(-1)", Samples::worked, x -> x.bestLower(-1), -2);
        Twins.refused("undo()", Samples::fresh, PlaFolder::undo, -6);
        Twins.refused("errorCount(-7)", Samples::worked, x -> x.errorCount(-7), -2);
    }

    private static void checksInTheirOrder() {
        Twins.refused("addTerm, wrong and full", Samples::full, x -> x.addTerm(64, 0, 1), -2);
        Twins.refused("fold, missing and taken", Samples::chain, x -> x.fold(0, 10), -2);
        Twins.refused("fold, missing and the same", Samples::chain, x -> x.fold(-1, -1), -2);
        Twins.refused("fold, taken and a cycle", Samples::chain, x -> x.fold(1, 0), -3);
        Twins.refused("unfold, missing and in no fold", Samples::chain, x -> x.unfold(10), -2);
        Twins.refused("partner, missing and in no fold", Samples::chain, x -> x.partner(10), -2);
    }

    // ---- The constants

    private static void constants() {
        Due.is("OUT_OF_RANGE", PlaFolder.OUT_OF_RANGE, new PlaFolder().uses(-1));
        Due.is("NOT_POSSIBLE", PlaFolder.NOT_POSSIBLE, new PlaFolder().unfold(0));
        Due.is("CYCLE", PlaFolder.CYCLE, Samples.chain().fold(8, 9));
        Due.is("FULL", PlaFolder.FULL, Samples.full().addTerm(0, 0, 1));
        Due.is("NOTHING_SAVED", PlaFolder.NOTHING_SAVED, new PlaFolder().undo());
        Due.is("NONE", PlaFolder.NONE, new PlaFolder().partner(0));
    }

    private static void noneIsNoError() {
        Twins.harmless("partner(4)", Samples::worked, x -> x.partner(4), PlaFolder.NONE);
        Twins.harmless("bestUpper(3)", Samples::worked, x -> x.bestUpper(3), PlaFolder.NONE);
        Twins.harmless("bestLower(3)", Samples::worked, x -> x.bestLower(3), PlaFolder.NONE);
    }

    private static void array() {
        say("What it is", "An object is used for at most 512 calls after it has been made",
            BoundaryDescriptionTest::fiveHundredAndTwelveCalls);
        say("Array", "The array has 1 to 6 inputs, 1 to 4 outputs", BoundaryDescriptionTest::leastAndMostSize);
        say("Array", "initially 4 inputs and 2 outputs", BoundaryDescriptionTest::sizeAtFirst);
        say("Array", "at most 10 product terms", BoundaryDescriptionTest::atMostTenTerms);
        say("Array", "numbered from 0 in the order in which they were added",
            BoundaryDescriptionTest::numberedFromZero);
        say("Array", "the two sets are disjoint", BoundaryDescriptionTest::disjointSets);
        say("Array", "both can be empty", BoundaryDescriptionTest::emptySets);
        say("Array", "belongs to a non-empty set of outputs", BoundaryDescriptionTest::someOutput);
        say("Array", "bit k for input or output k", BoundaryDescriptionTest::bitOfEachInputAndOutput);
        say("Array", "all inputs of which it demands 1 are 1 in x and all inputs of which it demands 0 are 0 in x",
            BoundaryDescriptionTest::demandsOfATerm);
        say("Array", "Output k is 1 for x if at least one term that belongs to output k is true for x.",
            BoundaryDescriptionTest::atLeastOneTerm);
        say("Array", "The output word for x has bit k equal to output k.", BoundaryDescriptionTest::bitOfEachOutput);
        say("Columns", "The columns of the inputs have the numbers 0 to 5", BoundaryDescriptionTest::inputColumns);
        say("Columns", "the columns of the outputs have the numbers 6 to 9", BoundaryDescriptionTest::outputColumns);
        say("Columns", "An input column uses the terms that demand 1 or 0 of the input",
            BoundaryDescriptionTest::inputColumnUses);
        say("Columns", "an output column uses the terms that belong to the output",
            BoundaryDescriptionTest::outputColumnUses);
        say("Redundancy", "A term is redundant if removing it changes the output word for no input word.",
            BoundaryDescriptionTest::needForOneWord);
    }

    private static void folding() {
        say("Folding", "different columns", BoundaryDescriptionTest::foldOfDifferentColumns);
        say("Folding", "that exist", BoundaryDescriptionTest::foldOfColumnsThatExist);
        say("Folding", "of the same kind (both inputs or both outputs)", BoundaryDescriptionTest::foldOfOneKind);
        say("Folding", "use no term in common", BoundaryDescriptionTest::foldWithoutCommonTerm);
        say("Folding", "u shares a track with v and lies above v", BoundaryDescriptionTest::upperLiesAbove);
        say("Folding", "Each column belongs to at most one fold.", BoundaryDescriptionTest::atMostOneFold);
        say("Folding", "each term that u uses lies above each term that v uses",
            BoundaryDescriptionTest::eachTermAboveEachTerm);
        say("Folding", "feasible if there is an order of the terms that satisfies all these demands",
            BoundaryDescriptionTest::feasibleSets);
        say("Folding", "The array has a feasible set of folds at any time",
            BoundaryDescriptionTest::feasibleAtAnyTime);
        say("Folding", "initially the empty set", BoundaryDescriptionTest::noFoldsAtFirst);
        say("Folding", "the next row is always the term with the lowest number that is not placed yet and above"
            + " which, according to the demands, no unplaced term must lie", BoundaryDescriptionTest::rowsFromTheTop);
        say("Changes and folds", "Adding a term, removing a term, and changing the size remove all folds.",
            BoundaryDescriptionTest::changesRemoveAllFolds);
        say("Changes and folds", "remove all folds", BoundaryDescriptionTest::refusedChangesRemoveNone);
        say("Area", "The area is the number of terms times the number of tracks",
            BoundaryDescriptionTest::termsTimesTracks);
        say("Area", "the number of columns that exist minus the number of folds",
            BoundaryDescriptionTest::tracksOfEachSize);
    }

    private static void bestFolding() {
        say("Best folding", "ordered by u", BoundaryDescriptionTest::orderedByUpper);
        say("Best folding", "the list with the smaller u comes first", BoundaryDescriptionTest::smallerUpperFirst);
        say("Best folding", "with equal u the one with the smaller v", BoundaryDescriptionTest::smallerLowerFirst);
        say("Best folding", "The best folding is the feasible set with the most folds",
            BoundaryDescriptionTest::mostFoldsWin);
        say("Best folding", "the feasible set", BoundaryDescriptionTest::feasibleAlone);
        say("Best folding", "of several, the one whose list comes first", BoundaryDescriptionTest::firstOfSeveral);
    }

    private static void undoAndErrors() {
        say("Undo", "Each successful call of a method whose description says \"undoable\" saves the state",
            BoundaryDescriptionTest::successfulCallsSave);
        say("Undo", "a method whose description says \"undoable\"", BoundaryDescriptionTest::questionsSaveNothing);
        say("Undo", "even if the call changes nothing", BoundaryDescriptionTest::savedThoughNothingChanges);
        say("Undo", "at most 5 states are saved", BoundaryDescriptionTest::atMostFiveStates);
        say("Undo", "the oldest is dropped first", BoundaryDescriptionTest::oldestIsDropped);
        say("Undo", "The saved state contains the size, the terms and the folds.",
            BoundaryDescriptionTest::sizeTermsAndFoldsComeBack);
        say("Errors", "A call that returns an error code changes nothing except that it increments the counter"
            + " of that code.", BoundaryDescriptionTest::refusedOfEachMethod);
        say("Errors", "The checks of a method are made in the order in which its error codes are listed.",
            BoundaryDescriptionTest::checksInTheirOrder);
        say("Description", "The constants:", BoundaryDescriptionTest::constants);
        say("Description", "`NONE = -1`: There is no such thing.", BoundaryDescriptionTest::noneIsNoError);
    }

    public static void main(String[] args) {
        array();
        folding();
        bestFolding();
        undoAndErrors();
        Due.finish();
    }
}
