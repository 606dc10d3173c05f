/** The class and its plain retelling side by side: each call goes to both, and both must answer the same. */
final class Pair {
    static final String[] NAMES = {
        "reset", "setResult", "setWeight", "reverseTriangle", "reversePath", "reversePlayer", "exchange",
        "construct", "enter", "recall", "undo", "append", "clearSequence", "checkSequence", "type", "clearText",
        "fault", "players", "beats", "weight", "score", "scoreAt", "triangles", "distance", "components",
        "componentOf", "spanningPaths", "pathAt", "cycleAt", "cycleLengths", "leastCost", "orderAt", "winners",
        "undisputed", "store", "difference", "isLikeStored", "towardsStored"
    };

    private final String run;
    private final TournamentDesk desk = new TournamentDesk();
    private final Naive naive = new Naive();
    private int calls = 0;

    Pair(String run) {
        this.run = run;
    }

    int calls() {
        return calls;
    }

    int players() {
        return naive.players();
    }

    int call(String name, int... a) {
        int x = a.length > 0 ? a[0] : 0;
        int y = a.length > 1 ? a[1] : 0;
        int z = a.length > 2 ? a[2] : 0;
        int want = naiveAnswer(name, x, y, z);
        calls++;
        Check.due(run + " call " + calls + " " + name + java.util.Arrays.toString(a), deskAnswer(name, x, y, z), want);
        return want;
    }

    /** Every question that takes no part in a change, for all players and places. */
    void lookAtAll() {
        int n = players();
        for (String name : new String[] {"players", "triangles", "components", "spanningPaths", "leastCost",
            "undisputed", "difference", "isLikeStored", "towardsStored", "fault", "checkSequence"}) {
            call(name);
        }
        for (int rule = -1; rule <= 5; rule++) {
            call("winners", rule);
        }
        for (int p = -1; p <= n; p++) {
            for (String name : new String[] {"score", "scoreAt", "componentOf", "pathAt", "cycleLengths", "orderAt"}) {
                call(name, p);
            }
        }
        lookAtPairs();
    }

    void lookAtPairs() {
        for (int a = 0; a < players(); a++) {
            for (int b = 0; b < players(); b++) {
                call("beats", a, b);
                call("weight", a, b);
                call("distance", a, b);
            }
        }
    }

    void lookAtCycles(int player) {
        for (int length = 2; length <= players() + 1; length++) {
            for (int place = -1; place <= length; place++) {
                call("cycleAt", player, length, place);
            }
        }
    }

    private int deskAnswer(String name, int x, int y, int z) {
        switch (name) {
            case "reset": return desk.reset(x);
            case "setResult": return desk.setResult(x, y);
            case "setWeight": return desk.setWeight(x, y, z);
            case "reverseTriangle": return desk.reverseTriangle(x, y, z);
            case "reversePath": return desk.reversePath(x, y);
            case "reversePlayer": return desk.reversePlayer(x);
            case "exchange": return desk.exchange(x, y);
            case "construct": return desk.construct();
            case "enter": return desk.enter();
            case "recall": return desk.recall();
            case "undo": return desk.undo();
            case "append": return desk.append(x);
            case "clearSequence": return desk.clearSequence();
            case "checkSequence": return desk.checkSequence();
            case "type": return desk.type(x);
            case "clearText": return desk.clearText();
            case "fault": return desk.fault();
            case "players": return desk.players();
            case "beats": return desk.beats(x, y);
            case "weight": return desk.weight(x, y);
            case "score": return desk.score(x);
            case "scoreAt": return desk.scoreAt(x);
            case "triangles": return desk.triangles();
            case "distance": return desk.distance(x, y);
            case "components": return desk.components();
            case "componentOf": return desk.componentOf(x);
            case "spanningPaths": return desk.spanningPaths();
            case "pathAt": return desk.pathAt(x);
            case "cycleAt": return desk.cycleAt(x, y, z);
            case "cycleLengths": return desk.cycleLengths(x);
            case "leastCost": return desk.leastCost();
            case "orderAt": return desk.orderAt(x);
            case "winners": return desk.winners(x);
            case "undisputed": return desk.undisputed();
            case "store": return desk.store();
            case "difference": return desk.difference();
            case "isLikeStored": return desk.isLikeStored();
            case "towardsStored": return desk.towardsStored();
            default: throw new IllegalArgumentException(name);
        }
    }

    private int naiveAnswer(String name, int x, int y, int z) {
        switch (name) {
            case "reset": return naive.reset(x);
            case "setResult": return naive.setResult(x, y);
            case "setWeight": return naive.setWeight(x, y, z);
            case "reverseTriangle": return naive.reverseTriangle(x, y, z);
            case "reversePath": return naive.reversePath(x, y);
            case "reversePlayer": return naive.reversePlayer(x);
            case "exchange": return naive.exchange(x, y);
            case "construct": return naive.construct();
            case "enter": return naive.enter();
            case "recall": return naive.recall();
            case "undo": return naive.undo();
            case "append": return naive.append(x);
            case "clearSequence": return naive.clearSequence();
            case "checkSequence": return naive.checkSequence();
            case "type": return naive.type(x);
            case "clearText": return naive.clearText();
            case "fault": return naive.fault();
            case "players": return naive.players();
            case "beats": return naive.beats(x, y);
            case "weight": return naive.weight(x, y);
            case "score": return naive.score(x);
            case "scoreAt": return naive.scoreAt(x);
            case "triangles": return naive.triangles();
            case "distance": return naive.distance(x, y);
            case "components": return naive.components();
            case "componentOf": return naive.componentOf(x);
            case "spanningPaths": return naive.spanningPaths();
            case "pathAt": return naive.pathAt(x);
            case "cycleAt": return naive.cycleAt(x, y, z);
            case "cycleLengths": return naive.cycleLengths(x);
            case "leastCost": return naive.leastCost();
            case "orderAt": return naive.orderAt(x);
            case "winners": return naive.winners(x);
            case "undisputed": return naive.undisputed();
            case "store": return naive.store();
            case "difference": return naive.difference();
            case "isLikeStored": return naive.isLikeStored();
            case "towardsStored": return naive.towardsStored();
            default: throw new IllegalArgumentException(name);
        }
    }
}
