/**
 * The boundary cases that the document names under "Changes and errors" and in the promises 11 and 12, and the 512
 * calls: for each such sentence a test of its own, with the sentence in the remark before it.
 */
public final class HistoryEdgesTest {
    /** One call of each kind of change, for the tournament of five players in a circle; the last ones alter nothing. */
    private static final String[] CHANGES = {
        "reset(2)", "reset(10)", "reset(5)", "setResult(1, 0)", "setWeight(3, 4, 100)", "reverseTriangle(0, 1, 3)",
        "reversePath(0, 4)", "reversePlayer(2)", "exchange(0, 4)", "construct()", "enter()", "recall()",
        "setResult(0, 1)", "setWeight(3, 4, 1)", "exchange(3, 3)"
    };
    /** Every method that is no change, with arguments for which it answers. */
    private static final String[] NO_CHANGES = {
        "append(0)", "clearSequence()", "checkSequence()", "type(48)", "clearText()", "fault()", "players()",
        "beats(0, 1)", "weight(0, 1)", "score(0)", "scoreAt(0)", "triangles()", "distance(0, 1)", "components()",
        "componentOf(0)", "spanningPaths()", "pathAt(0)", "cycleAt(0, 3, 1)", "cycleLengths(0)", "leastCost()",
        "orderAt(0)", "winners(0)", "winners(1)", "winners(2)", "winners(3)", "winners(4)", "undisputed()", "store()",
        "difference()", "isLikeStored()", "towardsStored()"
    };
    /** Calls that are refused in a tournament of five players whose history is full. */
    private static final String[] REFUSED = {
        "reset(1) = -1", "reset(11) = -1", "setResult(0, 0) = -1", "setResult(5, 0) = -1", "setWeight(0, 1, 0) = -1",
        "setWeight(0, 1, 101) = -1", "setWeight(1, 1, 1) = -1", "reverseTriangle(0, 0, 1) = -1",
        "reverseTriangle(0, 1, 2) = -2", "reversePath(1, 1) = -1", "reversePath(0, -1) = -1", "reversePath(4, 0) = -2",
        "reversePlayer(5) = -1", "exchange(0, 5) = -1", "construct() = -2", "enter() = -2", "append(10) = -1",
        "type(31) = -1", "type(127) = -1", "beats(5, 0) = -1", "weight(0, 0) = -1", "cycleAt(0, 3, 0) = -4",
        "distance(4, 0) = -4", "winners(5) = -1", "difference() = -2", "towardsStored() = -2"
    };

    public static void main(String[] args) {
        counts();
        oldest();
        kinds();
        whatIsRestored();
        recall();
        calls();
        Check.end();
    }

    private static void counts() {
        history12Empty();
        history12From1To8();
        history12OneMore();
    }

    private static void oldest() {
        theOldestIsDropped();
        theOldestIsDroppedEachTime();
        undoneStatesLeaveRoom();
        refusedCallsDropNothing();
        noChangesDropNothing();
    }

    private static void kinds() {
        eachChangeRecordsTheStateBeforeIt();
        eachChangeDropsTheOldest();
        undoIsNotRecorded();
        storeIsNoChange();
        changesThatAlterNothing();
    }

    private static void whatIsRestored() {
        numberOfPlayersIsRestored();
        resultsAndWeightsAreRestored();
        sequenceTextAndStoredAreNot();
    }

    private static void recall() {
        recall11();
        recall11StaysStored();
        recall11TwoAndTen();
    }

    private static void calls() {
        allOf512Calls();
        callsBeyond512End();
    }

    // ---- helpers

    /** So many changes, by which the pair 0, 1 weighs 2, 3, 4 and so on. */
    private static String weights(int changes) {
        StringBuilder run = new StringBuilder();
        for (int i = 0; i < changes; i++) {
            run.append("setWeight(0, 1, ").append(2 + i).append(") = ").append(1 + i).append("; ");
        }
        return run.toString();
    }

    // ---- counts

    /** Promise 12: "NOT_POSSIBLE if there is none": empty at first, and again when all is undone. */
    private static void history12Empty() {
        Told.due("12 empty", "undo() = -2; undo() = -2; all = 123,23,3,-; ones; setResult(3, 0) = 0; undo() = 0;"
            + " undo() = -2; all = 123,23,3,-; undo() = -2; players() = 4; setResult(3, 0) = 0; undo() = 0");
        Told.due("12 empty, with all else in use", "[1 1] '0>1;' store() = 4; undo() = -2; clearSequence() = 2;"
            + " clearText() = 4; difference() = 0");
    }

    /** Changes: "A history of at most 8 states": 1 to 8 changes are all undone. Promise 12: "can still be undone". */
    private static void history12From1To8() {
        for (int changes = 1; changes <= 8; changes++) {
            StringBuilder run = new StringBuilder(weights(changes));
            for (int left = changes - 1; left >= 0; left--) {
                run.append("undo() = ").append(left).append("; weight(0, 1) = ").append(left + 1).append("; ");
            }
            Told.due("12 up to 8 changes", run + "undo() = -2; weight(0, 1) = 1; all = 123,23,3,-");
        }
    }

    /** Changes: "at most 8 states": of 9 changes 8 are undone, and no more. */
    private static void history12OneMore() {
        Told.due("12 nine changes", weights(9) + "undo() = 7; undo() = 6; undo() = 5; undo() = 4; undo() = 3;"
            + " undo() = 2; undo() = 1; weight(0, 1) = 3; undo() = 0; weight(0, 1) = 2; undo() = -2;"
            + " weight(0, 1) = 2; undo() = -2");
    }

    // ---- the oldest one

    /** Changes: "if there are 8 already, the oldest one is dropped": the others stay, each as it was. */
    private static void theOldestIsDropped() {
        Told.due("the oldest is dropped", "reset(2) = 4; reset(3) = 2; reset(4) = 3; reset(5) = 4; reset(6) = 5;"
            + " reset(7) = 6; reset(8) = 7; reset(9) = 8; reset(10) = 9; undo() = 7; players() = 9; undo() = 6;"
            + " players() = 8; undo() = 5; players() = 7; undo() = 4; players() = 6; undo() = 3; players() = 5;"
            + " undo() = 2; players() = 4; undo() = 1; players() = 3; undo() = 0; players() = 2; undo() = -2;"
            + " players() = 2");
    }

    /** The same after 8 to 40 changes, so that the history has gone round several times. */
    private static void theOldestIsDroppedEachTime() {
        for (int changes = 8; changes <= 40; changes++) {
            StringBuilder run = new StringBuilder(weights(changes));
            for (int left = 7; left >= 0; left--) {
                run.append("undo() = ").append(left).append("; weight(0, 1) = ").append(changes - 7 + left).append("; ");
            }
            Told.due("the oldest is dropped after " + changes, run + "undo() = -2; weight(0, 1) = " + (changes - 7));
        }
    }

    /** Changes: "if there are 8 already": after an undo there are 7, and nothing is dropped. */
    private static void undoneStatesLeaveRoom() {
        for (int undone = 1; undone <= 8; undone++) {
            StringBuilder run = new StringBuilder(weights(12));
            for (int i = 1; i <= undone; i++) {
                run.append("undo() = ").append(8 - i).append("; ");
            }
            for (int i = 0; i < undone; i++) {
                run.append("setWeight(0, 1, ").append(50 + i).append("); ");
            }
            for (int left = 7; left >= 0; left--) {
                int kept = 8 - undone;
                int weight = left <= kept ? 5 + left : 49 + left - kept;
                run.append("undo() = ").append(left).append("; weight(0, 1) = ").append(weight).append("; ");
            }
            Told.due("undone states leave room", run + "undo() = -2");
        }
    }

    /** Changes: "A call that returns an error changes nothing": the oldest of 8 states is not dropped. */
    private static void refusedCallsDropNothing() {
        StringBuilder run = new StringBuilder("reset(5); [1 1 1 2] '0>1;1>1;' " + weights(7));
        for (String refused : REFUSED) {
            run.append(refused).append("; ");
        }
        Told.due("refused calls drop nothing", run + "undo() = 7; undo() = 6; undo() = 5; undo() = 4; undo() = 3;"
            + " undo() = 2; undo() = 1; players() = 5; ones; undo() = 0; players() = 4; undo() = -2");
        for (String refused : REFUSED) {
            Told.due("refused calls record nothing", "reset(5); [1 1 1 2] '0>1;1>1;' " + refused + "; undo() = 0;"
                + " undo() = -2; players() = 4");
        }
    }

    /** Changes: "The methods in the section \"changes\" are changes": no other one is recorded. */
    private static void noChangesDropNothing() {
        StringBuilder run = new StringBuilder("reset(5); " + weights(7));
        for (String call : NO_CHANGES) {
            run.append(call).append("; ");
        }
        Told.due("other calls drop nothing", run + "undo() = 7; undo() = 6; undo() = 5; undo() = 4; undo() = 3;"
            + " undo() = 2; undo() = 1; undo() = 0; players() = 4; undo() = -2");
        for (String call : NO_CHANGES) {
            Told.due("other calls record nothing", "setResult(3, 0); " + call + "; undo() = 0; undo() = -2");
        }
    }

    // ---- kinds of changes

    private static final String CIRCLE = "setResult(4, 1); setResult(3, 0); setResult(4, 0)";

    /** Changes: "each change records the state before it". */
    private static void eachChangeRecordsTheStateBeforeIt() {
        for (String change : CHANGES) {
            Told.due("each change records", "reset(5); " + CIRCLE + "; setWeight(3, 4, 7); [1 1 1] '0>1;3>4;' store();"
                + " reset(5) = 5; " + CIRCLE + "; setWeight(3, 4, 9); all = 12,23,34,04,01; " + change + "; undo() = 7;"
                + " all = 12,23,34,04,01; weight(3, 4) = 9; weight(0, 1) = 1; difference() = 0; undo() = 6;"
                + " weight(3, 4) = 1");
        }
    }

    /** Changes: "if there are 8 already, the oldest one is dropped", whichever change it is. */
    private static void eachChangeDropsTheOldest() {
        for (String change : CHANGES) {
            Told.due("each change drops the oldest", "reset(3); reset(5); " + CIRCLE + "; [1 1 1] '0>1;3>4;'"
                + " setWeight(0, 1, 2); setWeight(0, 1, 3); setWeight(0, 1, 4); " + change + "; undo() = 7;"
                + " weight(0, 1) = 4; all = 12,23,34,04,01; undo() = 6; undo() = 5; undo() = 4; undo() = 3;"
                + " undo() = 2; undo() = 1; all = " + Told.initial(5) + "; undo() = 0; players() = 3; undo() = -2;"
                + " players() = 3");
        }
    }

    /** Promise 12: "Undoes the latest change that has not been undone": an undo is not undone itself. */
    private static void undoIsNotRecorded() {
        Told.due("undo is not recorded", "setResult(3, 0); setResult(2, 0); setResult(1, 0); undo() = 2; undo() = 1;"
            + " all = 12,23,3,0; undo() = 0; all = 123,23,3,-; undo() = -2; all = 123,23,3,-");
        Told.due("a change between", "setResult(3, 0); setResult(2, 0); undo() = 1; setResult(2, 1); undo() = 1;"
            + " all = 12,23,3,0; undo() = 0; all = 123,23,3,-; undo() = -2");
    }

    /** Promise 36: "(This is no change.)" */
    private static void storeIsNoChange() {
        Told.due("store is no change", "store() = 4; undo() = -2; setResult(3, 0); store() = 4; undo() = 0;"
            + " difference() = 1; recall() = 4; all = 12,23,3,0; undo() = 0; all = 123,23,3,-; undo() = -2;"
            + " recall(); all = 12,23,3,0");
    }

    /** Changes: "The methods ... are changes if they return no error", also if nothing differs then. */
    private static void changesThatAlterNothing() {
        Told.due("changes that alter nothing", "reset(4) = 4; setResult(0, 1) = 1; setWeight(0, 1, 1) = 1;"
            + " exchange(2, 2) = 1; enter() = 0; recall() = 4; all = 123,23,3,-; undo() = 5; undo() = 4; undo() = 3;"
            + " undo() = 2; undo() = 1; undo() = 0; all = 123,23,3,-; undo() = -2");
    }

    // ---- what is restored

    /** Changes: Undoing "restores the number of players": 2 after 10 and 10 after 2. */
    private static void numberOfPlayersIsRestored() {
        Told.due("from 10 to 2", "reset(2); setResult(1, 0); setWeight(0, 1, 100); reset(10); setWeight(8, 9, 33);"
            + " undo() = 4; ones; undo() = 3; players() = 2; all = -,0; weight(0, 1) = 100; score(2) = -1");
        Told.due("from 2 to 10", "reset(10); reversePlayer(9); setWeight(8, 9, 33); reset(2); setResult(1, 0);"
            + " undo() = 4; undo() = 3; players() = 10; score(9) = 9; score(0) = 8; weight(9, 8) = 33;"
            + " weight(0, 1) = 1; undo() = 2; score(9) = 9; weight(9, 8) = 1; undo() = 1; score(9) = 0;"
            + " undo() = 0; players() = 4; undo() = -2");
        Told.due("from a constructed one", "reset(10); [0 1] construct() = 2; undo() = 1; all = " + Told.initial(10)
            + "; recall() = 4; undo() = 1; players() = 10");
    }

    /** Changes: "restores ... all results and all weights". */
    private static void resultsAndWeightsAreRestored() {
        Told.due("all of ten", Told.of(Told.ladder(10)) + "; setWeight(0, 9, 50); setWeight(4, 5, 60); reset(10);"
            + " undo() = 7; all = " + Told.ladder(10) + "; weight(0, 9) = 50; weight(5, 4) = 60; weight(0, 1) = 1;"
            + " undo() = 6; weight(4, 5) = 1; weight(9, 0) = 50; leastCost()");
        Told.due("an exchange with weights", "setWeight(0, 1, 10); setWeight(1, 2, 20); exchange(0, 2) = 1;"
            + " weight(0, 1) = 20; undo() = 2; all = 123,23,3,-; weight(0, 1) = 10; weight(1, 2) = 20");
    }

    /** Changes: Undoing restores the tournament alone, not the sequence, the text, or the stored tournament. */
    private static void sequenceTextAndStoredAreNot() {
        Told.due("not the sequence", "setResult(3, 0); [0 1] undo() = 0; checkSequence() = 0; construct() = 2;"
            + " clearSequence() = 2; undo() = 0; checkSequence() = -2; players() = 4");
        Told.due("not the text", "setResult(3, 0); '2>0;' undo() = 0; fault() = -4; enter() = 1; clearText() = 4;"
            + " undo() = 0; clearText() = 0; all = 123,23,3,-");
        Told.due("not the stored one", "reset(10); store() = 10; undo() = 0; players() = 4; difference() = -2;"
            + " recall() = 10; undo() = 0; players() = 4; recall() = 10; all = " + Told.initial(10));
    }

    // ---- recall

    /** Promise 11: "Returns the number of players; this cannot fail": also at first, and with a full history. */
    private static void recall11() {
        Told.due("11 at first", "recall() = 4; all = 123,23,3,-; ones; undo() = 0; undo() = -2");
        Told.due("11 full history", weights(8) + "recall() = 4; weight(0, 1) = 1; undo() = 7; weight(0, 1) = 9;"
            + " undo() = 6");
    }

    /** Promise 11: "(It stays stored.)" */
    private static void recall11StaysStored() {
        Told.due("11 stays stored", "setResult(3, 0); setWeight(1, 2, 100); store(); reset(7); recall() = 4;"
            + " all = 12,23,3,0; weight(2, 1) = 100; setResult(0, 3); setWeight(1, 2, 1); difference() = 1;"
            + " recall() = 4; all = 12,23,3,0; weight(1, 2) = 100; reversePlayer(0); exchange(1, 2); reset(2);"
            + " recall() = 4; all = 12,23,3,0; weight(1, 2) = 100; weight(0, 1) = 1; undo() = 7; players() = 2");
    }

    /** Promise 11 with the fewest and the most players. */
    private static void recall11TwoAndTen() {
        Told.due("11 two for ten", "reset(2); setResult(1, 0); setWeight(0, 1, 9); store() = 2; reset(10);"
            + " recall() = 2; all = -,0; weight(0, 1) = 9; score(2) = -1; pathAt(0) = 1; leastCost() = 0");
        Told.due("11 ten for two", Told.of(Told.ladder(10)) + "; setWeight(8, 9, 99); store() = 10; reset(2);"
            + " recall() = 10; all = " + Told.ladder(10) + "; weight(9, 8) = 99; components() = 1");
    }

    // ---- calls

    /** What it is: "An object is used for at most 512 calls": the 512th one still answers. */
    private static void allOf512Calls() {
        StringBuilder changes = new StringBuilder();
        for (int i = 0; i < 503; i++) {
            changes.append("setWeight(0, 1, ").append(1 + (i + 1) % 100).append(") = ").append(1 + i % 100).append("; ");
        }
        Told.due("503 changes", changes + "undo() = 7; undo() = 6; undo() = 5; undo() = 4; undo() = 3; undo() = 2;"
            + " undo() = 1; undo() = 0; weight(0, 1) = 96");
        StringBuilder results = new StringBuilder("reset(3); ");
        for (int i = 0; i < 170; i++) {
            int cost = 1 - i % 2;
            results.append("setResult(").append(i % 2 == 0 ? "2, 0" : "0, 2").append(") = 0; leastCost() = ")
                .append(cost).append("; winners(4) = ").append(cost == 1 ? 7 : 1).append("; ");
        }
        Told.due("170 changes with questions", results + "undo() = 7");
        Told.due("512 characters", "type(48); ".repeat(120) + "type(48) = -3; ".repeat(391) + "clearText() = 120");
        Told.due("512 undos", "undo() = -2; ".repeat(511) + "undo() = -2");
        Told.due("512 numbers", "append(9); ".repeat(10) + "append(9) = -3; ".repeat(501) + "clearSequence() = 10");
    }

    /** Promises 1 to 39 after the 512th call: "what later calls answer is free", but each call ends. */
    private static void callsBeyond512End() {
        Calls desk = Calls.ofDesk();
        for (int i = 0; i < 200; i++) {
            for (String name : Pair.NAMES) {
                desk.make(name, i % 13 - 1, (i + 1) % 11, (i + 2) % 12);
            }
        }
        Check.due("calls beyond 512", desk.made(), 200 * Pair.NAMES.length);
    }
}
