import java.util.ArrayList;
import java.util.List;

// All that an object shows of its state, its counters of errors left out. Some
// 270 calls are made, the last of them undos: the object is of no use afterwards.
final class Sight {
    private static final int CODES = 5;

    final List<String> answers = new ArrayList<>();
    final int saved;
    private final PlaFolder x;
    private final long[] counters = new long[CODES];
    private int termCount;
    private int columnCount;
    private int bestCount;

    Sight(PlaFolder x) {
        this.x = x;
        for (int i = 0; i < CODES; i++) {
            counters[i] = x.errorCount(-2 - i);
        }
        long digest = x.digest();
        seeTerms();
        seeColumns();
        seeWords();
        seeBest();
        saved = countSaved();
        see("digest() without counters and saved states", withoutCounters(digest) - saved);
    }

    /** Says what differs; the number of saved states is compared by who calls. */
    static void same(String text, Sight got, Sight want) {
        for (int i = 0; i < want.answers.size(); i++) {
            boolean equal = got.answers.get(i).equals(want.answers.get(i));
            Due.is(text + ": [" + got.answers.get(i) + "] as [" + want.answers.get(i) + "]", equal ? 1 : 0, 1);
        }
    }

    private int see(String call, long answer) {
        answers.add(call + " = " + answer);
        return (int) answer;
    }

    private void seeTerms() {
        termCount = see("terms()", x.terms());
        for (int i = 0; i < 10; i++) {
            see("literals(" + i + ")", x.literals(i));
            see("isRedundant(" + i + ")", x.isRedundant(i));
            see("termAt(" + i + ")", x.termAt(i));
            see("rowOf(" + i + ")", x.rowOf(i));
            for (int j = 0; j < 10; j++) {
                see("mustPrecede(" + i + ", " + j + ")", x.mustPrecede(i, j));
            }
        }
    }

    private void seeColumns() {
        see("folds()", x.folds());
        see("area()", x.area());
        for (int c = 0; c < 10; c++) {
            columnCount += see("uses(" + c + ")", x.uses(c)) == -2 ? 0 : 1;
            see("partner(" + c + ")", x.partner(c));
            see("span(" + c + ")", x.span(c));
        }
    }

    private void seeWords() {
        for (int word = 0; word < 64; word++) {
            see("evaluate(" + word + ")", x.evaluate(word));
        }
        for (int k = 0; k < 4; k++) {
            see("onCount(" + k + ")", x.onCount(k));
        }
    }

    private void seeBest() {
        bestCount = see("bestUpper(-1)", x.bestUpper(-1));
        for (int i = 0; i < 5; i++) {
            see("bestUpper(" + i + ")", x.bestUpper(i));
            see("bestLower(" + i + ")", x.bestLower(i));
        }
    }

    private int countSaved() {
        int count = 0;
        while (count < 6 && x.undo() >= 0) {
            count++;
        }
        return count;
    }

    // Each value stands in the hash times 31 for every value behind it.
    private long withoutCounters(long digest) {
        int values = CODES + 3 + 5 * termCount + 3 * columnCount + 2 + 2 * bestCount + 1;
        long rest = digest;
        for (int i = 0; i < CODES; i++) {
            rest -= counters[i] * power(values - 1 - i);
        }
        return rest;
    }

    private static long power(int exponent) {
        long p = 1;
        for (int i = 0; i < exponent; i++) {
            p *= 31;
        }
        return p;
    }
}
