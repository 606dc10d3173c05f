import java.util.Random;

/** Long runs of calls with arguments by a fixed seed, each answer compared with the plain retelling. */
public final class RandomRunsTest {
    private static final int[] WILD = {Integer.MIN_VALUE, -1000, -5, -1, 10, 11, 31, 32, 101, 127, 1000, Integer.MAX_VALUE};
    private static final int[][] SCORE_SEQUENCES = {
        {0, 1}, {1, 0}, {1, 1, 1}, {2, 0, 1}, {1, 2, 1, 2}, {3, 1, 1, 1}, {2, 2, 2, 2, 2}, {0, 3, 3, 2, 2},
        {3, 3, 3, 2, 2, 2}, {5, 2, 2, 2, 2, 2}, {3, 3, 3, 3, 3, 3, 3}, {6, 0, 3, 3, 3, 3, 3},
        {4, 4, 4, 4, 3, 3, 3, 3}, {4, 4, 4, 4, 4, 4, 4, 4, 4}, {1, 1, 1, 8, 5, 5, 5, 5, 5},
        {5, 4, 5, 4, 5, 4, 5, 4, 5, 4}, {9, 1, 1, 1, 5, 5, 5, 8, 5, 5}, {1, 1, 1, 4, 4, 4, 7, 7, 7, 9}
    };

    private final Random random;
    private final Pair pair;

    private RandomRunsTest(int seed) {
        random = new Random(seed);
        pair = new Pair("run " + seed);
    }

    public static void main(String[] args) {
        for (int seed = 1; seed <= 250; seed++) {
            new RandomRunsTest(seed).run();
        }
        Check.end();
    }

    private void run() {
        pair.call("reset", 2 + random.nextInt(random.nextInt(4) == 0 ? 9 : 6));
        for (int i = 0; i < 60 && random.nextInt(8) != 0; i++) {
            pair.call("setResult", player(), player());
        }
        while (pair.calls() < 490) {
            step();
        }
        for (int i = 0; i < 10; i++) {
            pair.call("undo");
        }
        pair.lookAtPairs();
    }

    private void step() {
        switch (random.nextInt(14)) {
            case 0:
                typeResults();
                break;
            case 1:
                appendSequence();
                break;
            case 2:
                pair.call("setWeight", player(), player(), 1 + random.nextInt(random.nextBoolean() ? 4 : 101));
                break;
            case 3:
            case 4:
                pair.call("setResult", player(), player());
                break;
            default:
                anyCall();
        }
    }

    private void anyCall() {
        String name = Pair.NAMES[random.nextInt(Pair.NAMES.length)];
        switch (name) {
            case "reset":
                if (random.nextInt(4) == 0) {
                    pair.call(name, random.nextInt(9));
                }
                break;
            case "append":
                pair.call(name, random.nextInt(4) == 0 ? wild() : random.nextInt(5));
                break;
            case "type":
                pair.call(name, random.nextInt(4) == 0 ? wild() : 45 + random.nextInt(20));
                break;
            case "winners":
                pair.call(name, random.nextInt(7) - 1);
                break;
            case "cycleAt":
                pair.call(name, player(), 2 + random.nextInt(pair.players()), player());
                break;
            default:
                pair.call(name, player(), player(), random.nextInt(8) == 0 ? wild() : player());
        }
    }

    private int player() {
        return random.nextInt(25) == 0 ? wild() : random.nextInt(25) == 0 ? pair.players() : random.nextInt(pair.players());
    }

    private int wild() {
        return WILD[random.nextInt(WILD.length)];
    }

    private void typeResults() {
        if (random.nextBoolean()) {
            pair.call("clearText");
        }
        for (int i = random.nextInt(5); i > 0; i--) {
            pair.call("type", '0' + random.nextInt(pair.players()));
            pair.call("type", random.nextBoolean() ? '<' : '>');
            pair.call("type", '0' + random.nextInt(pair.players()));
            pair.call("type", random.nextInt(20) == 0 ? ',' : ';');
        }
        pair.call("fault");
        pair.call("enter");
    }

    private void appendSequence() {
        if (random.nextInt(5) != 0) {
            pair.call("clearSequence");
        }
        int[] scores = SCORE_SEQUENCES[random.nextInt(SCORE_SEQUENCES.length)];
        int shift = random.nextInt(scores.length);
        for (int i = 0; i < scores.length; i++) {
            int score = scores[(i + shift) % scores.length];
            pair.call("append", random.nextInt(60) == 0 ? score + 1 : score);
        }
        pair.call("checkSequence");
        if (scores.length < 8 || random.nextInt(6) == 0) {
            pair.call("construct");
        }
    }
}
