/** Counts and prints the answers that are not as due; a test ends with end(). */
final class Check {
    private static int made = 0;
    private static int wrong = 0;
    private static final int MOST_PRINTED = 40;

    private Check() {
    }

    static void due(String what, long got, long want) {
        made++;
        if (got != want) {
            wrong++;
            if (wrong <= MOST_PRINTED) {
                System.out.println(what + " answered " + got + ", due is " + want);
            }
        }
    }

    static void holds(String what, boolean got) {
        due(what, got ? 1 : 0, 1);
    }

    static void end() {
        System.out.println(made + " answers looked at, " + wrong + " wrong");
        if (wrong != 0 || made == 0) {
            System.exit(1);
        }
    }
}
