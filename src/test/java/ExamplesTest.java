/** The five examples of the document, to the letter. */
public final class ExamplesTest {
    private static final String RESULT_THAT_CLOSES_CYCLES = """
        setResult(3, 0) = 0; components() = 1; triangles() = 2; winners(0) = 15;
        winners(1) = 11; winners(2) = 3; cycleAt(0, 4, 1) = 1; cycleAt(0, 3, 1) = 1; spanningPaths() = 5""";
    private static final String WEIGHT_DECIDES_THE_BEST_ORDER = """
        setResult(3, 0) = 0; leastCost() = 1; orderAt(0) = 0; setWeight(0, 3, 9) = 1;
        leastCost() = 2; orderAt(0) = 1; winners(4) = 10""";
    private static final String TOURNAMENT_IS_CONSTRUCTED = """
        append(1) = 1; append(1) = 2; append(1) = 3; checkSequence() = 0; construct() = 3;
        beats(0, 1) = 1; reverseTriangle(0, 1, 2) = 1; undo() = 1""";
    private static final String RESULTS_BY_A_TEXT = """
        type(50) = 1; type(62) = 2; type(48) = 3; type(59) = 4; type(48) = 5; type(60) = 6;
        type(51) = 7; type(59) = 8; fault() = -4; enter() = 2; distance(2, 1) = 2; difference() = 2""";
    private static final String ERRORS = """
        reversePath(3, 0) = -2; cycleAt(0, 3, 0) = -4; undo() = -2; append(10) = -1; checkSequence() = -2""";

    public static void main(String[] args) {
        due("1. A result that closes cycles", RESULT_THAT_CLOSES_CYCLES, 9);
        due("2. A weight decides the best order", WEIGHT_DECIDES_THE_BEST_ORDER, 7);
        due("3. A tournament is constructed", TOURNAMENT_IS_CONSTRUCTED, 8);
        due("4. Results by a text", RESULTS_BY_A_TEXT, 12);
        due("5. Errors", ERRORS, 5);
        Check.end();
    }

    private static void due(String what, String example, int calls) {
        long told = Told.steps(example).stream().filter(step -> step.due() != null).count();
        Check.due(what + ": calls with answers", told, calls);
        Told.due(what, example);
    }
}
