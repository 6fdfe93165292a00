/** Counts and prints the answers that are not the due ones; a test ends with finish. */
final class Checks {
    private static int wrong = 0;

    private Checks() {
    }

    static void due(String what, long got, long want) {
        if (got != want) {
            wrong++;
            System.out.println(what + " answered " + got + ", due is " + want);
        }
    }

    static void holds(String what, boolean condition) {
        if (!condition) {
            wrong++;
            System.out.println("does not hold: " + what);
        }
    }

    static void finish() {
        if (wrong != 0) {
            System.out.println(wrong + " wrong");
            System.exit(1);
        }
    }
}
