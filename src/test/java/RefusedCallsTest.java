import java.util.EnumMap;
import java.util.HashMap;
import java.util.List;
import java.util.Map;
import java.util.function.Predicate;

/**
 * "A call that returns an error changes nothing": for each call that a sentence of the document refuses its answer,
 * and that results, weights, number of players, history, sequence, text and stored tournament are afterwards what
 * they are without the call. Also for the other calls that they change what they are said to change alone.
 */
public final class RefusedCallsTest {
    private static final String CHANGED_9_TIMES = "setWeight(0, 1, 2); setWeight(0, 1, 3); reversePlayer(1);"
        + " setResult(0, 1); setWeight(0, 1, 4); exchange(0, 1); setWeight(0, 1, 5); setResult(1, 0);"
        + " setWeight(0, 1, 6); ";
    /** Nothing was called yet. */
    private static final String NEW = "";
    /** Two players, one number, one character. */
    private static final String TWO = "reset(2); setResult(1, 0); setWeight(0, 1, 9); store(); setResult(0, 1); [1] '7' ";
    /** Four players in no cycle, of the stored ones there are five; a score sequence; a text that is cut off. */
    private static final String FOUR = "reset(5); setResult(4, 0); setWeight(0, 1, 9); store(); reset(4);"
        + " setWeight(2, 3, 77); exchange(1, 2); [1 0 2] '3>1;0<2;3' ";
    /** Five players in cycles that differ from the stored ones; a sequence that is too large; a text with a fault. */
    private static final String FIVE = "reset(5); setResult(4, 0); store(); reversePath(0, 4); setWeight(2, 4, 100);"
        + " setResult(3, 0); setResult(2, 0); [0 1 3] '3>1;1>1;2<' ";
    /** Ten players, 8 states and more, 10 numbers, 120 characters. */
    private static final String TEN = "reset(10); setResult(9, 0); setResult(5, 2); store(); setResult(8, 1); "
        + CHANGED_9_TIMES + "[5 4 5 4 5 4 5 4 5 4] '" + "3>1;9<8;7>2;".repeat(10) + "' ";
    /** Ten players in a row, 8 states, 10 numbers that are too small, 120 characters with a fault. */
    private static final String ROW = "reset(9); store(); reset(10); setWeight(8, 9, 50); setWeight(0, 9, 60);"
        + " setWeight(0, 9, 70); setWeight(0, 9, 80); setWeight(0, 9, 90); setWeight(0, 9, 100);"
        + " [0 0 9 8 7 6 5 4 3 2] '" + "3>1;9<8;7>2;".repeat(9) + "0>1;5>5;1>0;' ";
    private static final String[] ALL = {NEW, TWO, FOUR, FIVE, TEN, ROW};
    private static final int[] NO_PLAYERS = {Integer.MIN_VALUE, -1, 10, Integer.MAX_VALUE};

    private static final Map<String, Map<Probe, List<Integer>>> WITHOUT = new HashMap<>();

    public static void main(String[] args) {
        wrongPlayers();
        wrongPlaces();
        wrongNumbers();
        changesNotPossible();
        limits();
        notFound();
        precedence();
        answered();
        Check.end();
    }

    // ---- helpers

    private static Calls made(String before) {
        Calls desk = Calls.ofDesk();
        for (Told.Step step : Told.steps(before)) {
            desk.make(step.name(), step.arguments());
        }
        return desk;
    }

    private static List<Integer> without(String before, Probe probe) {
        return WITHOUT.computeIfAbsent(before, b -> new EnumMap<>(Probe.class))
            .computeIfAbsent(probe, p -> p.look(made(before)));
    }

    /** The call's answer, and that each look at what the call must not touch sees what it sees without the call. */
    private static void due(String before, String call, Predicate<Probe> touched) {
        for (Probe probe : Probe.values()) {
            if (!touched.test(probe)) {
                Calls desk = made(before);
                for (Told.Step step : Told.steps(call)) {
                    int answer = desk.make(step.name(), step.arguments());
                    Check.due(before + call, answer, step.due());
                }
                List<Integer> seen = probe.look(desk);
                Check.holds(probe + " is touched: " + before + call, seen.equals(without(before, probe)));
                Check.holds("at most 512 calls: " + desk.made(), desk.made() <= 512);
            }
        }
    }

    private static void refused(String before, String call) {
        due(before, call, probe -> false);
    }

    private static void refusedAlways(String call) {
        for (String before : ALL) {
            refused(before, call);
        }
    }

    // ---- arguments out of range

    /** Promises 3 to 8, 20 to 22, 25, 27, 30, 31: "INVALID_ARGUMENT if there is no such player" or two are the same. */
    private static void wrongPlayers() {
        for (int no : NO_PLAYERS) {
            for (String call : new String[] {"setResult(?, 0)", "setResult(1, ?)", "setResult(?, ?)",
                "setWeight(?, 0, 50)", "setWeight(1, ?, 50)", "reverseTriangle(?, 0, 1)", "reverseTriangle(0, ?, 1)",
                "reverseTriangle(0, 1, ?)", "reversePath(?, 0)", "reversePath(0, ?)", "reversePlayer(?)",
                "exchange(?, 0)", "exchange(1, ?)", "exchange(?, ?)", "beats(?, 0)", "beats(0, ?)", "beats(?, ?)",
                "weight(?, 0)", "weight(0, ?)", "score(?)", "distance(?, 0)", "distance(0, ?)", "distance(?, ?)",
                "componentOf(?)", "cycleAt(?, 3, 0)", "cycleLengths(?)"}) {
                refusedAlways(call.replace("?", "" + no) + " = -1");
            }
        }
        for (String call : new String[] {"setResult(1, 1)", "setWeight(0, 0, 50)", "reverseTriangle(0, 0, 1)",
            "reverseTriangle(0, 1, 1)", "reverseTriangle(1, 0, 1)", "reversePath(1, 1)", "weight(1, 1)"}) {
            refusedAlways(call + " = -1");
        }
        firstNumberBehindThePlayers();
    }

    /** The same for the number n, which is the first one that no player has. */
    private static void firstNumberBehindThePlayers() {
        String[] calls = {"setResult(?, 0)", "setResult(1, ?)", "setWeight(?, 0, 50)", "setWeight(1, ?, 50)",
            "reverseTriangle(0, 1, ?)", "reverseTriangle(?, 1, 0)", "reversePath(0, ?)", "reversePath(?, 1)",
            "reversePlayer(?)", "exchange(0, ?)", "exchange(?, ?)", "beats(?, 0)", "weight(0, ?)", "score(?)",
            "distance(0, ?)", "componentOf(?)", "cycleAt(?, 3, 0)", "cycleLengths(?)", "scoreAt(?)", "pathAt(?)",
            "orderAt(?)"};
        for (String call : calls) {
            refused(TWO, call.replace("?", "2") + " = -1");
            refused(FOUR, call.replace("?", "4") + " = -1");
            refused(FIVE, call.replace("?", "5") + " = -1");
            refused(TEN, call.replace("?", "10") + " = -1");
        }
    }

    /** Promises 23, 29, 30, 33: "INVALID_ARGUMENT if place is out of range", or a length. */
    private static void wrongPlaces() {
        for (int no : NO_PLAYERS) {
            for (String call : new String[] {"scoreAt(?)", "pathAt(?)", "orderAt(?)", "cycleAt(0, 3, ?)"}) {
                refusedAlways(call.replace("?", "" + no) + " = -1");
            }
        }
        for (int length : new int[] {Integer.MIN_VALUE, -1, 0, 1, 2, 11, Integer.MAX_VALUE}) {
            refusedAlways("cycleAt(0, " + length + ", 0) = -1");
        }
        refused(FOUR, "cycleAt(0, 5, 0) = -1");
        refused(TWO, "cycleAt(0, 3, 0) = -1");
        refused(FIVE, "cycleAt(0, 3, 3) = -1");
        refused(FIVE, "cycleAt(0, 6, 0) = -1");
        refused(TEN, "cycleAt(0, 10, 10) = -1");
    }

    /** Promises 2, 4, 13, 16, 34: "INVALID_ARGUMENT if players", an argument, score, character or rule "is out of range". */
    private static void wrongNumbers() {
        for (int players : new int[] {Integer.MIN_VALUE, -1, 0, 1, 11, Integer.MAX_VALUE}) {
            refusedAlways("reset(" + players + ") = -1");
        }
        for (int weight : new int[] {Integer.MIN_VALUE, -1, 0, 101, Integer.MAX_VALUE}) {
            refusedAlways("setWeight(0, 1, " + weight + ") = -1");
        }
        for (int score : new int[] {Integer.MIN_VALUE, -1, 10, Integer.MAX_VALUE}) {
            refusedAlways("append(" + score + ") = -1");
        }
        for (int character : new int[] {Integer.MIN_VALUE, -1, 0, 31, 127, 65536 + 48, Integer.MAX_VALUE}) {
            refusedAlways("type(" + character + ") = -1");
        }
        for (int rule : new int[] {Integer.MIN_VALUE, -1, 5, Integer.MAX_VALUE}) {
            refusedAlways("winners(" + rule + ") = -1");
        }
    }

    // ---- not possible, limits, not found

    /** Promises 5, 6, 9, 10, 12, 15, 37, 39: NOT_POSSIBLE. */
    private static void changesNotPossible() {
        for (String before : new String[] {NEW, FOUR, ROW}) {
            refused(before, "reverseTriangle(0, 1, 2) = -2");
            refused(before, "reverseTriangle(3, 0, 1) = -2");
            refused(before, "reversePath(3, 0) = -2");
        }
        refused(TWO, "reversePath(1, 0) = -2");
        refused(ROW, "reversePath(9, 8) = -2");
        for (String before : new String[] {NEW, TWO, FIVE, ROW}) {
            refused(before, "construct() = -2");
        }
        for (String before : new String[] {TWO, FOUR, FIVE, ROW}) {
            refused(before, "enter() = -2");
        }
        for (String before : new String[] {TWO, NEW}) {
            refused(before, "checkSequence() = -2");
        }
        for (String before : new String[] {FOUR, ROW}) {
            refused(before, "difference() = -2");
            refused(before, "towardsStored() = -2");
        }
        undoNotPossible();
    }

    /** Promise 12: "NOT_POSSIBLE if there is none": the rest stays as it is. */
    private static void undoNotPossible() {
        refused(NEW, "undo() = -2");
        String allUndone = "[1 1 1] '3>0;' setResult(3, 0); store(); undo(); ";
        refused(allUndone, "undo() = -2");
        refused(allUndone, "undo() = -2; undo() = -2; undo() = -2");
        String nineUndone = TEN + "undo(); undo(); undo(); undo(); undo(); undo(); undo(); undo(); ";
        refused(nineUndone, "undo() = -2");
    }

    /** Promises 13 and 16: "LIMIT_REACHED if it has 10 numbers", "if the text has 120 characters". */
    private static void limits() {
        for (String before : new String[] {TEN, ROW}) {
            refused(before, "append(0) = -3");
            refused(before, "append(9) = -3");
            refused(before, "append(5) = -3; append(4) = -3; append(3) = -3");
            refused(before, "type(32) = -3");
            refused(before, "type(126) = -3");
            refused(before, "type(59) = -3; type(48) = -3; type(62) = -3");
        }
    }

    /** Promises 18, 25, 30, 39: NOT_FOUND. */
    private static void notFound() {
        refused(NEW, "fault() = -4");
        refused(TEN, "fault() = -4");
        refused(NEW, "distance(3, 0) = -4");
        refused(TWO, "distance(1, 0) = -4");
        refused(ROW, "distance(9, 8) = -4");
        refused(NEW, "cycleAt(0, 3, 2) = -4");
        refused(FOUR, "cycleAt(3, 4, 3) = -4");
        refused(ROW, "cycleAt(9, 10, 9) = -4");
        refused(NEW, "towardsStored() = -4");
        refused(TWO, "towardsStored() = -4");
    }

    /** Changes and errors: "If several errors apply to a call, ...": the first one named is returned. */
    private static void precedence() {
        invalidRatherThanNotPossible();
        invalidRatherThanLimit();
        invalidRatherThanNotFound();
        notPossibleRatherThanNotFound();
    }

    /** "INVALID_ARGUMENT is returned rather than NOT_POSSIBLE". */
    private static void invalidRatherThanNotPossible() {
        for (String before : new String[] {NEW, FOUR, ROW}) {
            refused(before, "reverseTriangle(3, 3, 0) = -1");
            refused(before, "reverseTriangle(2, 1, 10) = -1");
            refused(before, "reversePath(3, 3) = -1");
            refused(before, "reversePath(3, -1) = -1");
            refused(before, "reversePath(10, 0) = -1");
        }
    }

    /** "NOT_POSSIBLE rather than LIMIT_REACHED": INVALID_ARGUMENT goes before both. */
    private static void invalidRatherThanLimit() {
        for (String before : new String[] {TEN, ROW}) {
            refused(before, "append(10) = -1");
            refused(before, "append(-1) = -1");
            refused(before, "type(31) = -1");
            refused(before, "type(127) = -1");
        }
    }

    /** "LIMIT_REACHED rather than NOT_FOUND": INVALID_ARGUMENT goes before it. */
    private static void invalidRatherThanNotFound() {
        for (String before : new String[] {NEW, FOUR, ROW}) {
            refused(before, "cycleAt(0, 3, 3) = -1");
            refused(before, "cycleAt(0, 3, -1) = -1");
            refused(before, "cycleAt(0, 2, 0) = -1");
            refused(before, "cycleAt(0, 11, 0) = -1");
            refused(before, "cycleAt(10, 3, 0) = -1");
            refused(before, "distance(3, -1) = -1");
            refused(before, "distance(10, 0) = -1");
        }
    }

    /** NOT_POSSIBLE goes before NOT_FOUND: there is no triangle, and the numbers of players differ. */
    private static void notPossibleRatherThanNotFound() {
        refused(FOUR, "triangles() = 0; towardsStored() = -2");
        refused(ROW, "triangles() = 0; towardsStored() = -2");
    }

    // ---- calls that are answered

    /** Promises 19 to 39 but for store, and 15 and 18: a question changes nothing at all. */
    private static void answered() {
        for (String before : new String[] {FIVE, TEN}) {
            for (String question : new String[] {"checkSequence()", "fault()", "players()", "beats(0, 1)",
                "weight(0, 1)", "score(0)", "scoreAt(0)", "triangles()", "distance(0, 4)", "components()",
                "componentOf(4)", "spanningPaths()", "pathAt(4)", "cycleAt(0, 3, 2)", "cycleAt(0, 5, 4)",
                "cycleLengths(0)", "leastCost()", "orderAt(4)", "winners(0)", "winners(1)", "winners(2)", "winners(3)",
                "winners(4)", "undisputed()", "difference()", "isLikeStored()", "towardsStored()"}) {
                due(before, answeredBy(before, question), probe -> false);
            }
        }
        sequenceAndText();
        storedTournament();
        changes();
    }

    /** The call with the answer that the plain retelling gives. */
    private static String answeredBy(String before, String call) {
        Calls naive = Calls.ofNaive();
        for (Told.Step step : Told.steps(before)) {
            naive.make(step.name(), step.arguments());
        }
        Told.Step last = Told.steps(call).get(0);
        return call + " = " + naive.make(last.name(), last.arguments());
    }

    /** Promises 13, 14, 16, 17: the sequence alone, or the text alone. */
    private static void sequenceAndText() {
        for (String before : ALL) {
            due(before, answeredBy(before, "append(3)"), Probe::ofSequence);
            due(before, answeredBy(before, "clearSequence()"), Probe::ofSequence);
            due(before, answeredBy(before, "type(59)"), Probe::ofText);
            due(before, answeredBy(before, "clearText()"), Probe::ofText);
        }
    }

    /** Promise 36: the stored tournament alone, and with it how the present one compares with it. */
    private static void storedTournament() {
        for (String before : ALL) {
            due(before, answeredBy(before, "store()"), probe -> probe == Probe.STORED || probe == Probe.STRUCTURE);
        }
    }

    /** Promises 2 to 12: the present tournament and the history alone. */
    private static void changes() {
        for (String before : new String[] {FIVE, TEN}) {
            for (String change : new String[] {"reset(2)", "reset(10)", "setResult(0, 1)", "setResult(1, 0)",
                "setWeight(0, 1, 33)", "reverseTriangle(0, 1, 2)", "reversePath(0, 1)", "reversePlayer(0)",
                "exchange(0, 4)", "exchange(4, 4)", "construct()", "enter()", "recall()", "undo()"}) {
                due(before, answeredBy(before, change), probe -> probe.ofPresent() || probe.ofHistory());
            }
        }
    }
}
