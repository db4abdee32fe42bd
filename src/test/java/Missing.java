// Calls that ask for a term, a row or a column that is not there.
final class Missing {
    interface Ask {
        int of(PlaFolder x, int argument);
    }

    private Missing() {
    }

    /** A method that takes a term, or a row, for each number of terms: the last there is, and those past the ends. */
    static void term(String name, Ask ask) {
        for (int terms = 0; terms <= 10; terms++) {
            PlaFolder x = new PlaFolder();
            for (int k = 0; k < terms; k++) {
                x.addTerm(k, 0, 1);
            }
            String of = " of " + terms;
            if (terms > 0) {
                Due.is(name + "(0)" + of + " refused", ask.of(x, 0) == -2 ? 1 : 0, 0);
                Due.is(name + "(" + (terms - 1) + ")" + of + " refused", ask.of(x, terms - 1) == -2 ? 1 : 0, 0);
            }
            Due.is(name + "(" + terms + ")" + of, ask.of(x, terms), -2);
            Due.is(name + "(-1)" + of, ask.of(x, -1), -2);
            far(name, x, ask);
            Due.is(name + ": errorCount(-2)", x.errorCount(-2), 2 + Samples.FAR.length);
        }
        Twins.refused(name + "(4)", Samples::worked, x -> ask.of(x, 4), -2);
        Twins.refused(name + "(-1)", Samples::worked, x -> ask.of(x, -1), -2);
    }

    /** A method that takes a column, for each size: all columns, those past the ends and those in the gap. */
    static void column(String name, Ask ask) {
        for (int inputs = 1; inputs <= 6; inputs++) {
            for (int outputs = 1; outputs <= 4; outputs++) {
                PlaFolder x = Samples.sized(inputs, outputs);
                for (int column = -1; column <= 11; column++) {
                    boolean missing = column < 0 || (column < 6 ? column >= inputs : column - 6 >= outputs);
                    Due.is(name + "(" + column + ") refused with size " + inputs + ", " + outputs,
                        ask.of(x, column) == -2 ? 1 : 0, missing ? 1 : 0);
                }
                far(name, x, ask);
                Due.is(name + ": errorCount(-2)", x.errorCount(-2), 13 - inputs - outputs + Samples.FAR.length);
            }
        }
        for (int column : new int[] {-1, 5, 9, 10}) {
            Twins.refused(name + "(" + column + ")", Samples::worked, x -> ask.of(x, column), -2);
        }
    }

    private static void far(String name, PlaFolder x, Ask ask) {
        for (int far : Samples.FAR) {
            Due.is(name + "(" + far + ")", ask.of(x, far), -2);
        }
    }
}
