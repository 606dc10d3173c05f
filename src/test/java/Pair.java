/** The class and its plain retelling side by side: each call goes to both, and both must answer the same. */
final class Pair {
    static final String[] NAMES = {
        "reset", "setResult", "setWeight", "reverseTriangle", "reversePath", "reversePlayer", "exchange",
        "construct", "enter", "recall", "undo", "append", "clearSequence", "checkSequence", "type", "clearText",
        "fault", "players", "beats", "weight", "score", "scoreAt", "triangles", "distance", "components",
        "componentOf", "spanningPaths", "pathAt", "cycleAt", "cycleLengths", "leastCost", "orderAt", "winners",
        "undisputed", "store", "difference", "isLikeStored", "towardsStored"
    };

    private final String run;
    private final Calls desk = Calls.ofDesk();
    private final Calls naive = Calls.ofNaive();

    Pair(String run) {
        this.run = run;
    }

    int calls() {
        return desk.made();
    }

    int players() {
        return naive.make("players");
    }

    int call(String name, int... arguments) {
        int want = naive.make(name, arguments);
        int got = desk.make(name, arguments);
        Check.due(run + " call " + calls() + " " + name + java.util.Arrays.toString(arguments), got, want);
        return want;
    }

    /** Every question that takes no part in a change, for all players and places. */
    void lookAtAll() {
        int n = players();
        for (String name : new String[] {"players", "triangles", "components", "spanningPaths", "leastCost",
            "undisputed", "difference", "isLikeStored", "towardsStored", "fault", "checkSequence"}) {
            call(name);
        }
        for (int rule = -1; rule <= 5; rule++) {
            call("winners", rule);
        }
        for (int p = -1; p <= n; p++) {
            for (String name : new String[] {"score", "scoreAt", "componentOf", "pathAt", "cycleLengths", "orderAt"}) {
                call(name, p);
            }
        }
        lookAtPairs();
    }

    void lookAtPairs() {
        for (int a = 0; a < players(); a++) {
            for (int b = 0; b < players(); b++) {
                call("beats", a, b);
                call("weight", a, b);
                call("distance", a, b);
            }
        }
    }

    void lookAtCycles(int player) {
        for (int length = 2; length <= players() + 1; length++) {
            for (int place = -1; place <= length; place++) {
                call("cycleAt", player, length, place);
            }
        }
    }
}
