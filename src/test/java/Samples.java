// Arrays that the tests of the boundary cases begin with.
final class Samples {
    /** Numbers far out of every range that the document names. */
    static final int[] FAR = {Integer.MIN_VALUE, Integer.MIN_VALUE + 1, -1000, 1000, 1 << 16, Integer.MAX_VALUE - 1,
        Integer.MAX_VALUE};

    private Samples() {
    }

    static PlaFolder fresh() {
        return new PlaFolder();
    }

    static PlaFolder sized(int inputs, int outputs) {
        PlaFolder x = new PlaFolder();
        x.setSize(inputs, outputs);
        return x;
    }

    /** The largest size and ten terms, no two alike. */
    static PlaFolder full() {
        PlaFolder x = sized(6, 4);
        for (int k = 0; k < 10; k++) {
            addOfFull(x, k);
        }
        return x;
    }

    static void addOfFull(PlaFolder x, int k) {
        x.addTerm(k, zerosOfFull(k), 1 + k);
    }

    static int zerosOfFull(int k) {
        return 16 << k % 2;
    }

    /** Ten terms and five folds: term k uses the input column k, terms 6 to 9 use none. */
    static PlaFolder fullAndFolded() {
        PlaFolder x = sized(6, 4);
        for (int k = 0; k < 10; k++) {
            x.addTerm(k < 6 ? 1 << k : 0, 0, 1);
        }
        x.fold(1, 0);
        x.fold(3, 2);
        x.fold(4, 5);
        x.fold(6, 7);
        x.fold(9, 8);
        return x;
    }

    /**
     * Five terms, term 0 above term 1 by the fold (0, 1), and so on to term 4; with the fold (8, 9), which is not
     * made, term 4 would lie above term 0.
     */
    static PlaFolder chain() {
        PlaFolder x = chainOfTerms();
        x.fold(0, 1);
        x.fold(2, 3);
        x.fold(4, 5);
        x.fold(6, 7);
        return x;
    }

    static PlaFolder chainOfTerms() {
        PlaFolder x = sized(6, 4);
        x.addTerm(1, 0, 8);
        x.addTerm(2, 4, 1);
        x.addTerm(8, 16, 1);
        x.addTerm(32, 0, 1);
        x.addTerm(0, 0, 2 + 4);
        return x;
    }

    /** Five inputs, three outputs, all five states saved, a redundant term (3), three folds, and every counter at work. */
    static PlaFolder worked() {
        PlaFolder x = sized(5, 3);
        x.undo();
        x.undo();
        for (int k = 0; k < 10; k++) {
            x.addTerm(0, 0, 1);
        }
        x.addTerm(0, 0, 1);
        x.setSize(5, 3);
        x.addTerm(1, 8, 1);
        x.addTerm(2, 4, 2);
        x.addTerm(16, 0, 1);
        x.addTerm(16, 2, 1);
        x.fold(1, 0);
        x.fold(0, 1);
        x.fold(2, 3);
        x.fold(3, 2);
        x.fold(6, 7);
        x.fold(8, 6);
        x.uses(5);
        return x;
    }
}
