// Counts and prints the answers that are not the ones that are due.
final class Due {
    private static int wrong = 0;

    private Due() {
    }

    static void is(String call, long got, long want) {
        if (got != want) {
            wrong++;
            System.out.println(call + " answered " + got + ", due is " + want);
        }
    }

    static void fault(String text) {
        wrong++;
        System.out.println(text);
    }

    static void finish() {
        if (wrong != 0) {
            System.exit(1);
        }
    }
}
