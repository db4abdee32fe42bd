// The five examples of the document, each on a new object.
public final class ExamplesTest {
    private static void twoTermsAndAFold() {
        PlaFolder x = new PlaFolder();
        Due.is("1: addTerm(1, 2, 1)", x.addTerm(1, 2, 1), 0);
        Due.is("1: addTerm(4, 8, 2)", x.addTerm(4, 8, 2), 1);
        Due.is("1: evaluate(1)", x.evaluate(1), 1);
        Due.is("1: canFold(0, 2)", x.canFold(0, 2), 1);
        Due.is("1: fold(2, 0)", x.fold(2, 0), 1);
        Due.is("1: termAt(0)", x.termAt(0), 1);
        Due.is("1: rowOf(0)", x.rowOf(0), 1);
        Due.is("1: area()", x.area(), 10);
    }

    private static void oppositeOrders() {
        PlaFolder x = new PlaFolder();
        Due.is("2: addTerm(1, 4, 1)", x.addTerm(1, 4, 1), 0);
        Due.is("2: addTerm(2, 8, 2)", x.addTerm(2, 8, 2), 1);
        Due.is("2: fold(0, 1)", x.fold(0, 1), 1);
        Due.is("2: fold(3, 2)", x.fold(3, 2), -4);
        Due.is("2: fold(2, 3)", x.fold(2, 3), 2);
        Due.is("2: folds()", x.folds(), 2);
    }

    private static void redundantTerm() {
        PlaFolder x = new PlaFolder();
        Due.is("3: addTerm(1, 0, 1)", x.addTerm(1, 0, 1), 0);
        Due.is("3: addTerm(1, 2, 1)", x.addTerm(1, 2, 1), 1);
        Due.is("3: isRedundant(1)", x.isRedundant(1), 1);
        Due.is("3: removeRedundant()", x.removeRedundant(), 1);
        Due.is("3: terms()", x.terms(), 1);
    }

    private static void bestFolding() {
        PlaFolder x = new PlaFolder();
        Due.is("4: addTerm(1, 0, 1)", x.addTerm(1, 0, 1), 0);
        Due.is("4: addTerm(2, 0, 1)", x.addTerm(2, 0, 1), 1);
        Due.is("4: bestUpper(-1)", x.bestUpper(-1), 3);
        Due.is("4: bestUpper(0)", x.bestUpper(0), 0);
        Due.is("4: bestLower(0)", x.bestLower(0), 1);
        Due.is("4: foldBest()", x.foldBest(), 6);
    }

    private static void errors() {
        PlaFolder x = new PlaFolder();
        Due.is("5: addTerm(1, 1, 1)", x.addTerm(1, 1, 1), -2);
        Due.is("5: fold(0, 6)", x.fold(0, 6), -3);
        Due.is("5: unfold(0)", x.unfold(0), -3);
    }

    public static void main(String[] args) {
        twoTermsAndAFold();
        oppositeOrders();
        redundantTerm();
        bestFolding();
        errors();
        Due.finish();
    }
}
