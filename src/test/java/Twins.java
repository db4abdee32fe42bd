import java.util.function.Supplier;
import java.util.function.ToIntFunction;

// Objects that were made by the same calls: what one call does shows where it was made on one of them alone.
final class Twins {
    private static final int MOST_SAVED = 5;

    private Twins() {
    }

    /** The call answers an error code, counts it once, and changes nothing else, in no saved state either. */
    static void refused(String call, Supplier<PlaFolder> make, ToIntFunction<PlaFolder> made, int code) {
        countedOnce(call, make, made, code);
        changesNothing(call, make, made);
    }

    private static void changesNothing(String call, Supplier<PlaFolder> make, ToIntFunction<PlaFolder> made) {
        for (int undos = 0; undos <= MOST_SAVED; undos++) {
            PlaFolder x = make.get();
            PlaFolder y = make.get();
            made.applyAsInt(x);
            alike(call + " and " + undos + " undos", x, y, undos);
        }
    }

    private static void countedOnce(String call, Supplier<PlaFolder> make, ToIntFunction<PlaFolder> made, int code) {
        PlaFolder x = make.get();
        PlaFolder y = make.get();
        Due.is(call, made.applyAsInt(x), code);
        for (int c = -6; c <= -2; c++) {
            Due.is(call + ": errorCount(" + c + ")", x.errorCount(c), y.errorCount(c) + (c == code ? 1 : 0));
        }
    }

    private static void alike(String text, PlaFolder x, PlaFolder y, int undos) {
        for (int i = 0; i < undos; i++) {
            Due.is(text + ": undo()", x.undo(), y.undo());
        }
        Sight got = new Sight(x);
        Sight want = new Sight(y);
        Sight.same(text, got, want);
        Due.is(text + ": saved states", got.saved, want.saved);
    }

    /** The call answers what is due, and one undo brings back all that was there before it. */
    static void undoable(String call, Supplier<PlaFolder> make, ToIntFunction<PlaFolder> made, int answer) {
        PlaFolder x = make.get();
        Sight want = new Sight(make.get());
        Due.is(call, made.applyAsInt(x), answer);
        int left = Math.min(want.saved, MOST_SAVED - 1);
        Due.is(call + ": undo()", x.undo(), left);
        Sight got = new Sight(x);
        Sight.same(call + ": undone", got, want);
        Due.is(call + ": saved states once it is undone", got.saved, left);
    }

    /** The call answers what is due, which is no error, and changes nothing: no counter and no saved state. */
    static void harmless(String call, Supplier<PlaFolder> make, ToIntFunction<PlaFolder> made, int answer) {
        PlaFolder x = make.get();
        PlaFolder y = make.get();
        Due.is(call, made.applyAsInt(x), answer);
        for (int c = -6; c <= -2; c++) {
            Due.is(call + ": errorCount(" + c + ")", x.errorCount(c), y.errorCount(c));
        }
        changesNothing(call, make, made);
    }
}
