// Counts and prints the answers that are not the ones that are due.
final class Due {
    private static int wrong = 0;
    private static int asked = 0;
    private static String about = "";

    private Due() {
    }

    /** What the answers that follow are about: it is printed before each that is wrong. */
    static void about(String text) {
        about = text.isEmpty() ? "" : text + ": ";
    }

    /** How many answers have been looked at so far. */
    static int asked() {
        return asked;
    }

    static void is(String call, long got, long want) {
        asked++;
        if (got != want) {
            fault(call + " answered " + got + ", due is " + want);
        }
    }

    static void fault(String text) {
        wrong++;
        System.out.println(about + text);
    }

    static void finish() {
        if (wrong != 0) {
            System.exit(1);
        }
    }
}
