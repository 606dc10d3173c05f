import java.util.Random;

/** Every tournament of 2 to 5 players and some of the larger ones, with all questions about each. */
public final class AllTournamentsTest {
    public static void main(String[] args) {
        for (int n = 2; n <= 5; n++) {
            for (long code = 0; code < 1L << n * (n - 1) / 2; code++) {
                look(n, code, 0);
            }
        }
        Random random = new Random(6);
        for (int n = 6; n <= 10; n++) {
            for (int i = 0; i < 10 * (11 - n) * (11 - n); i++) {
                look(n, random.nextLong(), random.nextInt(4));
            }
        }
        Check.end();
    }

    private static void look(int n, long code, int mostWeight) {
        Pair pair = new Pair("n " + n + " code " + code);
        pair.call("reset", n);
        pair.call("store");
        build(pair, n, code, mostWeight);
        pair.lookAtAll();
        if (n <= 5 || code % 4 == 0) {
            lookAtCyclesOf(n, code);
        }
    }

    private static void build(Pair pair, int n, long code, int mostWeight) {
        long left = code;
        for (int a = 0; a < n; a++) {
            for (int b = a + 1; b < n; b++) {
                if ((left & 1) != 0) {
                    pair.call("setResult", b, a);
                }
                if (mostWeight > 0) {
                    pair.call("setWeight", a, b, 1 + Math.floorMod(code + 7 * a + 13 * b, mostWeight));
                }
                left >>= 1;
            }
        }
    }

    /** On an object of its own, for the calls to all places of all cycles are many. */
    private static void lookAtCyclesOf(int n, long code) {
        for (int player = -1; player <= n; player++) {
            Pair pair = new Pair("cycles, n " + n + " code " + code);
            pair.call("reset", n);
            build(pair, n, code, 0);
            pair.lookAtCycles(player);
        }
    }
}
