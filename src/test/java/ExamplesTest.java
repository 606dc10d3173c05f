/** The five examples of the document. */
public final class ExamplesTest {
    public static void main(String[] args) {
        resultThatClosesCycles();
        weightDecidesOrder();
        construction();
        resultsByText();
        errors();
        Check.end();
    }

    private static void resultThatClosesCycles() {
        TournamentDesk x = new TournamentDesk();
        Check.due("1 setResult(3, 0)", x.setResult(3, 0), 0);
        Check.due("1 components()", x.components(), 1);
        Check.due("1 triangles()", x.triangles(), 2);
        Check.due("1 winners(0)", x.winners(0), 15);
        Check.due("1 winners(1)", x.winners(1), 11);
        Check.due("1 winners(2)", x.winners(2), 3);
        Check.due("1 cycleAt(0, 4, 1)", x.cycleAt(0, 4, 1), 1);
        Check.due("1 cycleAt(0, 3, 1)", x.cycleAt(0, 3, 1), 1);
        Check.due("1 spanningPaths()", x.spanningPaths(), 5);
    }

    private static void weightDecidesOrder() {
        TournamentDesk x = new TournamentDesk();
        Check.due("2 setResult(3, 0)", x.setResult(3, 0), 0);
        Check.due("2 leastCost()", x.leastCost(), 1);
        Check.due("2 orderAt(0)", x.orderAt(0), 0);
        Check.due("2 setWeight(0, 3, 9)", x.setWeight(0, 3, 9), 1);
        Check.due("2 leastCost()", x.leastCost(), 2);
        Check.due("2 orderAt(0)", x.orderAt(0), 1);
        Check.due("2 winners(4)", x.winners(4), 10);
    }

    private static void construction() {
        TournamentDesk x = new TournamentDesk();
        Check.due("3 append(1)", x.append(1), 1);
        Check.due("3 append(1)", x.append(1), 2);
        Check.due("3 append(1)", x.append(1), 3);
        Check.due("3 checkSequence()", x.checkSequence(), 0);
        Check.due("3 construct()", x.construct(), 3);
        Check.due("3 beats(0, 1)", x.beats(0, 1), 1);
        Check.due("3 reverseTriangle(0, 1, 2)", x.reverseTriangle(0, 1, 2), 1);
        Check.due("3 undo()", x.undo(), 1);
    }

    private static void resultsByText() {
        TournamentDesk x = new TournamentDesk();
        int[] codes = {50, 62, 48, 59, 48, 60, 51, 59};
        for (int i = 0; i < codes.length; i++) {
            Check.due("4 type(" + codes[i] + ")", x.type(codes[i]), i + 1);
        }
        Check.due("4 fault()", x.fault(), -4);
        Check.due("4 enter()", x.enter(), 2);
        Check.due("4 distance(2, 1)", x.distance(2, 1), 2);
        Check.due("4 difference()", x.difference(), 2);
    }

    private static void errors() {
        TournamentDesk x = new TournamentDesk();
        Check.due("5 reversePath(3, 0)", x.reversePath(3, 0), -2);
        Check.due("5 cycleAt(0, 3, 0)", x.cycleAt(0, 3, 0), -4);
        Check.due("5 undo()", x.undo(), -2);
        Check.due("5 append(10)", x.append(10), -1);
        Check.due("5 checkSequence()", x.checkSequence(), -2);
    }
}
