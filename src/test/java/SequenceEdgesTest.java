/**
 * The boundary cases that the document names under "Sequences and construction" and in the promises 9 and 13 to 15:
 * for each such sentence a test of its own, with the sentence in the remark before it.
 */
public final class SequenceEdgesTest {
    private static final String TEN = "[9 0 9 0 9 0 9 0 9 0]";

    public static void main(String[] args) {
        lengths();
        checks();
        construction();
        Check.end();
    }

    private static void lengths() {
        append13From0To9();
        append13AtMost10();
        append13Precedence();
        sequenceInitiallyEmpty();
        clearSequence14();
        clearSequence14Full();
    }

    private static void checks() {
        checkSequence15LessThan2();
        checkSequence15OfTwo();
        checkSequence15TooSmallAtK();
        checkSequence15LeastK();
        checkSequence15TooLargeAtTheEnd();
        checkSequence15JustLargeEnough();
        checkSequence15InAscendingOrder();
        checkSequence15OfTen();
    }

    private static void construction() {
        construct9NoScoreSequence();
        construct9Empty();
        construct9From2To10();
        construct9InThisOrder();
        construct9GreatestRest();
        construct9SmallestRests();
        construct9WeightsAre1();
        construct9SequenceStays();
    }

    // ---- helpers

    /** The numbers 0 to length - 1, of which some are given other values, in ascending or descending order. */
    private static int[] row(int length) {
        int[] row = new int[length];
        for (int i = 0; i < length; i++) {
            row[i] = i;
        }
        return row;
    }

    private static String told(int[] row, boolean descending) {
        StringBuilder all = new StringBuilder();
        for (int i = 0; i < row.length; i++) {
            all.append(i == 0 ? "[" : " ").append(row[descending ? row.length - 1 - i : i]);
        }
        return all.append(']').toString();
    }

    private static void dueCheck(String what, int[] row, int k) {
        for (boolean descending : new boolean[] {false, true}) {
            String constructed = k == 0 ? "" + row.length : "-2";
            Told.due(what, told(row, descending) + " checkSequence() = " + k + "; construct() = " + constructed
                + "; checkSequence() = " + k + "; undo() = " + (k == 0 ? 0 : -2) + "; clearSequence() = " + row.length);
        }
    }

    // ---- lengths

    /** Sequences: "numbers from 0 to 9". Promise 13: "score: 0 to 9", "INVALID_ARGUMENT if score is out of range". */
    private static void append13From0To9() {
        Told.range("13 score", "players()", "append(?)", 0, 9);
        Told.range("13 score behind others", "[1 2 3 4 5 6 7 8 9]", "append(?)", 0, 9);
        Told.due("13 just outside", "append(-1) = -1; append(0) = 1; append(9) = 2; append(10) = -1; append(MIN) = -1;"
            + " append(MAX) = -1; append(48) = -1; append(57) = -1; clearSequence() = 2; undo() = -2");
    }

    /** Sequences: "a sequence of at most 10 numbers". Promise 13: "LIMIT_REACHED if it has 10 numbers". */
    private static void append13AtMost10() {
        Told.due("13 at most 10", "append(5) = 1; append(5) = 2; append(5) = 3; append(5) = 4; append(5) = 5;"
            + " append(5) = 6; append(5) = 7; append(5) = 8; append(5) = 9; append(5) = 10; append(5) = -3;"
            + " append(0) = -3; append(9) = -3; append(9) = -3; clearSequence() = 10; append(5) = 1");
        Told.due("13 the eleventh number is nowhere", "[0 1 2 3 4 5 6 7 8 9] append(0) = -3; append(9) = -3;"
            + " checkSequence() = 0; construct() = 10; score(9) = 9; score(0) = 0; append(3) = -3");
    }

    /** Promise 13 and "INVALID_ARGUMENT is returned rather than ... LIMIT_REACHED". */
    private static void append13Precedence() {
        Told.due("13 invalid before full", TEN + " append(10) = -1; append(-1) = -1; append(MIN) = -1;"
            + " append(MAX) = -1; append(0) = -3; append(9) = -3; clearSequence() = 10");
    }

    /** Sequences: "initially empty". */
    private static void sequenceInitiallyEmpty() {
        Told.due("initially empty", "clearSequence() = 0; checkSequence() = -2; append(0) = 1");
        Told.due("initially empty, first number", "append(1) = 1; append(0) = 2; checkSequence() = 0");
    }

    /** Promise 14: "Returns the length it had", 0 to 10. */
    private static void clearSequence14() {
        StringBuilder run = new StringBuilder("clearSequence() = 0");
        for (int length = 1; length <= 10; length++) {
            for (int i = 0; i < length; i++) {
                run.append("; append(9) = ").append(i + 1);
            }
            run.append("; clearSequence() = ").append(length).append("; clearSequence() = 0; checkSequence() = -2");
        }
        Told.due("14 each length", run + "; undo() = -2");
    }

    /** Promise 14: "Empties the sequence": also the full one, and none of its numbers is left. */
    private static void clearSequence14Full() {
        Told.due("14 full", TEN + " append(1) = -3; clearSequence() = 10; construct() = -2; append(1) = 1;"
            + " checkSequence() = -2; append(1) = 2; checkSequence() = 2; append(1) = 3; checkSequence() = 0;"
            + " construct() = 3; clearSequence() = 3; undo() = 0");
    }

    // ---- checks

    /** Promise 15: "NOT_POSSIBLE if the length is less than 2". Sequences: "m from 2 to 10". */
    private static void checkSequence15LessThan2() {
        Told.due("15 empty", "checkSequence() = -2");
        for (int number = 0; number <= 9; number++) {
            Told.due("15 one number", "append(" + number + ") = 1; checkSequence() = -2; clearSequence() = 1;"
                + " checkSequence() = -2");
        }
        Told.due("15 two numbers", "append(0); checkSequence() = -2; append(1); checkSequence() = 0");
    }

    /** Sequences: "m from 2": of two numbers only 0 and 1. */
    private static void checkSequence15OfTwo() {
        for (int one = 0; one <= 9; one++) {
            for (int two = 0; two <= 9; two++) {
                int k = one + two == 1 ? 0 : 2;
                Told.due("15 of two", "append(" + one + "); append(" + two + "); checkSequence() = " + k
                    + "; construct() = " + (k == 0 ? 2 : -2));
            }
        }
    }

    /** Promise 15: "the sum of the k smallest numbers is too small": by one, for each k from 2 on. */
    private static void checkSequence15TooSmallAtK() {
        for (int length = 2; length <= 10; length++) {
            for (int k = 2; k <= length; k++) {
                int[] row = row(length);
                row[k - 1]--;
                dueCheck("15 too small at " + k + " of " + length, row, k);
                if (k < length && row[k] < 9) {
                    row[k]++;
                    dueCheck("15 too small at " + k + " of " + length + ", the sum of all is right", row, k);
                }
            }
        }
    }

    /** Promise 15: "the least k, from 1 on", where several sums are too small. */
    private static void checkSequence15LeastK() {
        for (int length = 3; length <= 10; length++) {
            int[] row = new int[length];
            dueCheck("15 all zero", row, 2);
            row[length - 1] = Math.min(9, length * (length - 1) / 2);
            dueCheck("15 all zero but one", row, 2);
            int[] early = row(length);
            early[2] = 1;
            dueCheck("15 at 3 and at all later ones", early, 3);
        }
        Told.due("15 too small, and too large at the end", "[0 0 9 9] checkSequence() = 2; clearSequence();"
            + " [0 1 1 9] checkSequence() = 3; clearSequence(); [9 9 9 9] checkSequence() = 4");
    }

    /** Promise 15: "for k equal to the length: too small or too large": by one and by much. */
    private static void checkSequence15TooLargeAtTheEnd() {
        for (int length = 2; length <= 10; length++) {
            int[] row = row(length);
            row[0]++;
            dueCheck("15 too large by one", row, length);
            int[] most = new int[length];
            java.util.Arrays.fill(most, 9);
            dueCheck("15 too large by much", most, length);
        }
    }

    /** Sequences: "for each k ... at least k * (k - 1) / 2, and the sum of all is m * (m - 1) / 2": just so much. */
    private static void checkSequence15JustLargeEnough() {
        for (int length = 2; length <= 10; length++) {
            dueCheck("15 just large enough", row(length), 0);
        }
        for (int length = 3; length <= 10; length++) {
            int[] row = row(length);
            row[0]++;
            row[length - 1]--;
            dueCheck("15 larger but for the sum of all", row, 0);
        }
        Told.due("15 all equal", "[1 1 1] checkSequence() = 0; clearSequence(); [2 2 2 2 2] checkSequence() = 0;"
            + " clearSequence(); [3 3 3 3 3 3 3] checkSequence() = 0; clearSequence(); [4 4 4 4 4 4 4 4 4]"
            + " checkSequence() = 0; append(9) = 10; checkSequence() = 0");
    }

    /** Sequences: "if, in ascending order, ...": however they were appended. */
    private static void checkSequence15InAscendingOrder() {
        Told.due("15 any order", "[2 0 1] checkSequence() = 0; clearSequence(); [0 2 1] checkSequence() = 0;"
            + " clearSequence(); [2 1 0] checkSequence() = 0; clearSequence(); [3 0 0] checkSequence() = 2;"
            + " clearSequence(); [0 3 0] checkSequence() = 2; clearSequence(); [1 0 1] checkSequence() = 3;"
            + " clearSequence(); [9 3 0 3 1 5 6 5 4 9] checkSequence() = 8");
    }

    /** Sequences: "m from 2 to 10": ten numbers. */
    private static void checkSequence15OfTen() {
        Told.due("15 of ten", "[9 8 7 6 5 4 3 2 1 0] checkSequence() = 0; append(0) = -3; checkSequence() = 0;"
            + " clearSequence(); [4 4 4 4 4 5 5 5 5 5] checkSequence() = 0; clearSequence();"
            + " [4 4 4 4 4 4 5 5 5 5] checkSequence() = 10; clearSequence(); [4 4 4 4 5 5 5 5 5 5]"
            + " checkSequence() = 10; clearSequence(); [0 0 0 0 0 0 0 0 0 0] checkSequence() = 2; clearSequence();"
            + " [9 9 9 9 9 9 9 9 9 9] checkSequence() = 10; clearSequence(); [9 7 0 1 2 3 4 5 6 7]"
            + " checkSequence() = 9; clearSequence(); [9 8 7 6 5 4 3 2 1] checkSequence() = 9");
    }

    // ---- construction

    /** Promise 9: "NOT_POSSIBLE if the sequence is no score sequence": nothing has changed then. */
    private static void construct9NoScoreSequence() {
        String here = "setResult(3, 0); setWeight(0, 1, 9); ";
        String stays = " all = 12,23,3,0; weight(0, 1) = 9; players() = 4; undo() = 1";
        Told.due("9 too small", here + "[0 0 3] construct() = -2;" + stays);
        Told.due("9 too small at the end", here + "[0 1 1] construct() = -2;" + stays);
        Told.due("9 too large at the end", here + "[1 1 2] construct() = -2;" + stays);
        Told.due("9 ten too large", here + TEN + " construct() = -2;" + stays + "; clearSequence() = 10");
        Told.due("9 a number more", "[0 1] construct() = 2; append(1); construct() = -2; players() = 2; append(5);"
            + " construct() = -2; undo() = 0");
    }

    /** Promise 9 and Sequences: "m from 2": the empty sequence and one number are no score sequences. */
    private static void construct9Empty() {
        Told.due("9 empty", "construct() = -2; all = 123,23,3,-; undo() = -2");
        Told.due("9 one number", "append(0) = 1; construct() = -2; all = 123,23,3,-; undo() = -2;"
            + " clearSequence() = 1; construct() = -2");
    }

    /** Promise 9: "Returns the number of players", 2 to 10. */
    private static void construct9From2To10() {
        Told.due("9 two", "[0 1] construct() = 2; all = -,0; clearSequence(); [1 0] construct() = 2; all = 1,-");
        for (int length = 2; length <= 10; length++) {
            Told.due("9 ascending", told(row(length), true) + " reset(10); construct() = " + length + "; players() = "
                + length + "; all = " + Told.initial(length) + "; ones; undo() = 1; players() = 10");
        }
        Told.due("9 ten", told(row(10), false) + " construct() = 10; score(0) = 0; score(9) = 9; beats(9, 8) = 1;"
            + " beats(0, 1) = 0; triangles() = 0; components() = 10; componentOf(9) = 0");
    }

    /** Promise 9: "a tournament whose scores are the numbers of the sequence, in this order". */
    private static void construct9InThisOrder() {
        int[][] all = {{1, 0}, {1, 2, 0}, {1, 1, 1}, {3, 1, 1, 1}, {2, 1, 2, 1}, {0, 2, 2, 2}, {4, 0, 2, 2, 2},
            {3, 3, 3, 2, 2, 2}, {5, 4, 5, 4, 5, 4, 5, 4, 5, 4}, {9, 4, 4, 4, 4, 4, 4, 4, 4, 4},
            {0, 5, 5, 5, 5, 5, 5, 5, 5, 5}, {8, 8, 8, 6, 5, 4, 3, 1, 1, 1}, {1, 8, 1, 8, 1, 8, 3, 4, 5, 6}};
        for (int[] row : all) {
            StringBuilder run = new StringBuilder(told(row, false)).append(" construct() = ").append(row.length);
            for (int player = 0; player < row.length; player++) {
                run.append("; score(").append(player).append(") = ").append(row[player]);
            }
            for (int a = 0; a < row.length; a++) {
                for (int b = 0; b < row.length; b++) {
                    run.append("; beats(").append(a).append(", ").append(b).append(")");
                }
            }
            Told.due("9 in this order", run.toString());
        }
    }

    /** Construction: "the one with the greatest rest, of several the one with the highest number". */
    private static void construct9GreatestRest() {
        Told.due("9 all equal", "[1 1 1] construct(); all = 1,2,0");
        Told.due("9 two greatest", "[1 1 2 2] construct(); all = 1,2,03,01");
        Told.due("9 two greatest first", "[2 2 1 1] construct(); all = 12,23,3,0");
        Told.due("9 five equal", "[2 2 2 2 2] construct(); all = 12,23,34,04,01");
    }

    /** Construction: "those with the smallest rests, of several with equal rests those with lower numbers first". */
    private static void construct9SmallestRests() {
        Told.due("9 lower ones of equal rests", "[1 1 1 3] construct(); all = 1,2,0,012");
        Told.due("9 smallest ones", "[2 1 1 2] construct(); all = 13,2,0,12");
        Told.due("9 the rest decreases", "[3 2 2 2 1] construct(); all = 124,23,34,04,1");
    }

    /** Promise 9: "all weights are 1". */
    private static void construct9WeightsAre1() {
        Told.due("9 weights", "setWeight(0, 1, 100); setWeight(2, 3, 50); [1 1 2 2] construct() = 4; ones");
        Told.due("9 weights of ten", "reset(10); setWeight(0, 9, 100); setWeight(8, 9, 50); [0 1] construct() = 2; ones;"
            + " undo(); weight(8, 9) = 50; clearSequence(); " + told(row(10), false) + " construct() = 10; ones");
    }

    /** Promise 9 changes the tournament alone: the sequence stays, and so do the text and the stored tournament. */
    private static void construct9SequenceStays() {
        Told.due("9 the sequence stays", "'0>1;' [0 1] construct() = 2; checkSequence() = 0; append(2) = 3;"
            + " construct() = 3; clearSequence() = 3; clearText() = 4; recall() = 4; all = 123,23,3,-; undo() = 2");
    }
}
