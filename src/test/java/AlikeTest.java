import java.util.ArrayList;
import java.util.List;

/**
 * Sorts all tournaments of 2 to 6 players by isLikeStored: there are 1, 2, 4, 12 and 56 kinds of them, as is
 * known, and the present one is like its stored one however its players are numbered.
 */
public final class AlikeTest {
    private static final int[] KINDS = {1, 2, 4, 12, 56};

    public static void main(String[] args) {
        for (int n = 2; n <= 6; n++) {
            Check.due("kinds of " + n + " players", countKinds(n), KINDS[n - 2]);
        }
        Check.end();
    }

    private static int countKinds(int n) {
        List<Integer> kinds = new ArrayList<>();
        for (int code = 0; code < 1 << n * (n - 1) / 2; code++) {
            int alike = 0;
            for (int kind : kinds) {
                alike += isLike(n, code, kind);
            }
            Check.holds("at most one kind, n " + n + " code " + code, alike <= 1);
            if (alike == 0) {
                kinds.add(code);
            }
        }
        return kinds.size();
    }

    private static int isLike(int n, int code, int other) {
        TournamentDesk x = new TournamentDesk();
        x.reset(n);
        setResults(x, n, other);
        x.store();
        setResults(x, n, other ^ code);
        return x.isLikeStored();
    }

    /** Turns the results whose bits are set. */
    private static void setResults(TournamentDesk x, int n, int bits) {
        int left = bits;
        for (int a = 0; a < n; a++) {
            for (int b = a + 1; b < n; b++) {
                if ((left & 1) != 0) {
                    x.reversePath(x.beats(a, b) == 1 ? a : b, x.beats(a, b) == 1 ? b : a);
                }
                left >>= 1;
            }
        }
    }
}
