/** For each promise ordinary calls, the edges that the document names, wrong arguments and the order of errors. */
public final class PromisesTest {
    private static final int INVALID = -1;
    private static final int NOT_POSSIBLE = -2;
    private static final int LIMIT = -3;
    private static final int NOT_FOUND = -4;
    private static final int[] NO_PLAYERS = {Integer.MIN_VALUE, -1, 4, 10, 31, 32, 64, Integer.MAX_VALUE};

    private static TournamentDesk x;

    public static void main(String[] args) {
        changesOfPairs();
        changesOfMany();
        changesOfAll();
        sequences();
        texts();
        resultsAndScores();
        structure();
        ordersAndWinners();
        storedTournament();
        Check.end();
    }

    private static void changesOfPairs() {
        newObject1();
        reset2();
        setResult3();
        setWeight4();
    }

    private static void changesOfMany() {
        reverseTriangle5();
        reversePath6();
        reversePlayer7();
        exchange8();
    }

    private static void changesOfAll() {
        construct9();
        enter10();
        recall11();
        undo12();
        undoOfEachChange12();
        errorsRecordNothing12();
    }

    private static void sequences() {
        append13();
        clearSequence14();
        checkSequence15();
    }

    private static void texts() {
        type16();
        clearText17();
        fault18();
    }

    private static void resultsAndScores() {
        players19();
        beats20();
        weight21();
        score22();
        scoreAt23();
    }

    private static void structure() {
        triangles24();
        distance25();
        components26();
        componentOf27();
        spanningPaths28();
        pathAt29();
        cycleAt30();
        cycleLengths31();
    }

    private static void ordersAndWinners() {
        leastCost32();
        orderAt33();
        winners34();
        undisputed35();
    }

    private static void storedTournament() {
        store36();
        difference37();
        isLikeStored38();
        towardsStored39();
    }

    // ---- helpers

    private static void due(String what, int got, int want) {
        Check.due(what, got, want);
    }

    private static void fresh() {
        x = new TournamentDesk();
    }

    private static void freshOf(int players) {
        fresh();
        x.reset(players);
    }

    /** Each player beats the next (n - 1) / 2 ones in the circle. */
    private static void freshCircle(int n) {
        freshOf(n);
        for (int a = 0; a < n; a++) {
            for (int step = 1; step <= (n - 1) / 2; step++) {
                x.setResult(a, (a + step) % n);
            }
        }
    }

    private static void appendAll(int... numbers) {
        x.clearSequence();
        for (int number : numbers) {
            x.append(number);
        }
    }

    private static void typeAll(String text) {
        x.clearText();
        for (int i = 0; i < text.length(); i++) {
            x.type(text.charAt(i));
        }
    }

    /** All results as "01,23": each player's beaten ones. */
    private static String results() {
        StringBuilder all = new StringBuilder();
        for (int a = 0; a < x.players(); a++) {
            all.append(a == 0 ? "" : ",");
            for (int b = 0; b < x.players(); b++) {
                all.append(x.beats(a, b) == 1 ? "" + b : "");
            }
        }
        return all.toString();
    }

    private static void dueResults(String what, String want) {
        if (!results().equals(want)) {
            System.out.println(what + ": results are " + results() + ", due are " + want);
        }
        Check.holds(what + ": results", results().equals(want));
    }

    private static void dueOnes(String what, int n) {
        for (int a = 0; a < n; a++) {
            for (int b = 0; b < n; b++) {
                if (a != b) {
                    due(what + " weight(" + a + ", " + b + ")", x.weight(a, b), 1);
                }
            }
        }
    }

    // ---- the changes

    private static void newObject1() {
        fresh();
        due("1 players", x.players(), 4);
        dueResults("1", "123,23,3,");
        dueOnes("1", 4);
        due("1 no sequence", x.clearSequence(), 0);
        due("1 no text", x.clearText(), 0);
        due("1 no history", x.undo(), NOT_POSSIBLE);
        due("1 stored", x.difference(), 0);
        x.setResult(3, 0);
        x.setWeight(0, 1, 7);
        due("1 the stored one stays", x.difference(), 1);
        due("1 recall", x.recall(), 4);
        dueResults("1 recalled", "123,23,3,");
        dueOnes("1 recalled", 4);
        due("1 objects are apart", new TournamentDesk().undo(), NOT_POSSIBLE);
    }

    private static void reset2() {
        fresh();
        for (int players : new int[] {Integer.MIN_VALUE, -4, 0, 1, 11, 32, Integer.MAX_VALUE}) {
            due("2 reset(" + players + ")", x.reset(players), INVALID);
        }
        due("2 undo", x.undo(), NOT_POSSIBLE);
        x.setResult(3, 0);
        x.setWeight(0, 3, 100);
        due("2 reset(4)", x.reset(4), 4);
        dueResults("2", "123,23,3,");
        dueOnes("2", 4);
        due("2 reset(2)", x.reset(2), 4);
        dueResults("2", "1,");
        due("2 reset(10)", x.reset(10), 2);
        dueResults("2", "123456789,23456789,3456789,456789,56789,6789,789,89,9,");
        dueOnes("2", 10);
        appendAll(1, 1);
        typeAll("0>1;");
        x.setWeight(8, 9, 100);
        due("2 reset(3)", x.reset(3), 10);
        due("2 the sequence stays", x.clearSequence(), 2);
        due("2 the text stays", x.clearText(), 4);
        due("2 the stored one stays", x.difference(), NOT_POSSIBLE);
        x.reset(10);
        dueOnes("2 again", 10);
        due("2 the history stays", x.undo(), 7);
    }

    private static void setResult3() {
        fresh();
        due("3 new result", x.setResult(3, 0), 0);
        dueResults("3", "12,23,3,0");
        due("3 same result", x.setResult(3, 0), 1);
        dueResults("3", "12,23,3,0");
        due("3 back", x.setResult(0, 3), 0);
        due("3 initial result", x.setResult(0, 1), 1);
        due("3 same player", x.setResult(2, 2), INVALID);
        for (int no : NO_PLAYERS) {
            due("3 winner " + no, x.setResult(no, 0), INVALID);
            due("3 loser " + no, x.setResult(0, no), INVALID);
            due("3 both " + no, x.setResult(no, no), INVALID);
        }
        due("3 each one without error is a change", x.undo(), 3);
        freshOf(10);
        due("3 last player", x.setResult(9, 8), 0);
        due("3 last player", x.beats(9, 8), 1);
    }

    private static void setWeight4() {
        fresh();
        due("4 greatest", x.setWeight(0, 1, 100), 1);
        due("4 both ways", x.weight(1, 0), 100);
        due("4 other way", x.setWeight(1, 0, 1), 100);
        due("4 least", x.weight(0, 1), 1);
        due("4 same", x.setWeight(0, 1, 1), 1);
        due("4 other pairs", x.weight(0, 2), 1);
        due("4 last pair", x.setWeight(3, 2, 50), 1);
        due("4 last pair", x.weight(2, 3), 50);
        for (int weight : new int[] {Integer.MIN_VALUE, -1, 0, 101, Integer.MAX_VALUE}) {
            due("4 weight " + weight, x.setWeight(0, 1, weight), INVALID);
        }
        due("4 same player", x.setWeight(1, 1, 5), INVALID);
        for (int no : NO_PLAYERS) {
            due("4 a " + no, x.setWeight(no, 0, 5), INVALID);
            due("4 b " + no, x.setWeight(0, no, 5), INVALID);
        }
        due("4 changes", x.undo(), 3);
        due("4 undone", x.weight(2, 3), 1);
        dueResults("4 no result", "123,23,3,");
    }

    private static void reverseTriangle5() {
        fresh();
        due("5 no cycle", x.reverseTriangle(0, 1, 2), NOT_POSSIBLE);
        x.setResult(3, 0);
        due("5 triangle", x.reverseTriangle(0, 1, 3), 2);
        dueResults("5", "23,02,3,1");
        x.undo();
        due("5 in another sequence", x.reverseTriangle(3, 1, 0), 2);
        dueResults("5", "23,02,3,1");
        due("5 back", x.reverseTriangle(1, 0, 3), 2);
        dueResults("5", "12,23,3,0");
        due("5 first two same", x.reverseTriangle(0, 0, 1), INVALID);
        due("5 last two same", x.reverseTriangle(0, 1, 1), INVALID);
        due("5 outer two same", x.reverseTriangle(3, 1, 3), INVALID);
        due("5 all same", x.reverseTriangle(2, 2, 2), INVALID);
        for (int no : NO_PLAYERS) {
            due("5 a " + no, x.reverseTriangle(no, 1, 2), INVALID);
            due("5 b " + no, x.reverseTriangle(0, no, 2), INVALID);
            due("5 c " + no, x.reverseTriangle(0, 1, no), INVALID);
        }
        due("5 changes", x.undo(), 2);
        freshCircle(9);
        due("5 many triangles", x.reverseTriangle(0, 3, 6), 30);
        freshOf(2);
        due("5 two players", x.reverseTriangle(0, 1, 2), INVALID);
    }

    private static void reversePath6() {
        fresh();
        due("6 one step", x.reversePath(0, 3), 1);
        dueResults("6", "12,23,3,0");
        due("6 least of two", x.reversePath(0, 3), 2);
        dueResults("6", "2,02,3,01");
        x.undo();
        due("6 through the first player", x.reversePath(3, 1), 2);
        dueResults("6", "23,023,3,");
        x.undo();
        due("6 three steps", x.reversePath(2, 1), 3);
        dueResults("6", "23,023,,2");
        fresh();
        due("6 no path", x.reversePath(3, 0), NOT_POSSIBLE);
        due("6 no path", x.reversePath(1, 0), NOT_POSSIBLE);
        due("6 same player", x.reversePath(2, 2), INVALID);
        for (int no : NO_PLAYERS) {
            due("6 from " + no, x.reversePath(no, 0), INVALID);
            due("6 to " + no, x.reversePath(0, no), INVALID);
        }
        due("6 errors change nothing", x.undo(), NOT_POSSIBLE);
        longPath6();
    }

    /** All results point back but for those from each player to the next one. */
    private static void longPath6() {
        freshOf(10);
        for (int a = 0; a < 10; a++) {
            for (int b = a + 2; b < 10; b++) {
                x.setResult(b, a);
            }
        }
        due("6 longest", x.reversePath(0, 9), 9);
        for (int a = 0; a < 9; a++) {
            due("6 longest turned", x.beats(a + 1, a), 1);
        }
        due("6 the others stay", x.beats(9, 0), 1);
        due("6 now no path", x.reversePath(0, 9), NOT_POSSIBLE);
        due("6 undone", x.undo(), 7);
        due("6 undone", x.distance(0, 9), 9);
    }

    private static void reversePlayer7() {
        fresh();
        due("7 first", x.reversePlayer(0), 0);
        dueResults("7", ",023,03,0");
        due("7 third", x.reversePlayer(2), 1);
        dueResults("7", "2,03,1,02");
        due("7 back", x.reversePlayer(2), 2);
        for (int no : NO_PLAYERS) {
            due("7 player " + no, x.reversePlayer(no), INVALID);
        }
        due("7 changes", x.undo(), 2);
        freshOf(10);
        x.setWeight(9, 0, 33);
        due("7 last", x.reversePlayer(9), 9);
        due("7 weights stay", x.weight(0, 9), 33);
    }

    private static void exchange8() {
        fresh();
        x.setWeight(0, 2, 5);
        x.setWeight(0, 1, 8);
        due("8 exchange(0, 1)", x.exchange(0, 1), 2);
        dueResults("8", "23,023,3,");
        due("8 weight goes along", x.weight(1, 2), 5);
        due("8 weight goes along", x.weight(0, 2), 1);
        due("8 their own weight", x.weight(0, 1), 8);
        due("8 with itself", x.exchange(3, 3), 0);
        dueResults("8", "23,023,3,");
        due("8 it is a change", x.undo(), 3);
        due("8 far ones", x.exchange(3, 1), 3);
        dueResults("8", "12,,1,012");
        due("8 far weights", x.weight(2, 3), 5);
        due("8 far weights", x.weight(3, 0), 8);
        for (int no : NO_PLAYERS) {
            due("8 a " + no, x.exchange(no, 0), INVALID);
            due("8 b " + no, x.exchange(0, no), INVALID);
            due("8 both " + no, x.exchange(no, no), INVALID);
        }
        due("8 changes", x.undo(), 3);
    }

    private static void construct9() {
        fresh();
        due("9 empty", x.construct(), NOT_POSSIBLE);
        appendAll(0);
        due("9 one number", x.construct(), NOT_POSSIBLE);
        appendAll(0, 0, 3);
        due("9 no score sequence", x.construct(), NOT_POSSIBLE);
        appendAll(1, 1, 2, 3);
        due("9 too much", x.construct(), NOT_POSSIBLE);
        due("9 errors change nothing", x.undo(), NOT_POSSIBLE);
        x.setWeight(0, 1, 9);
        appendAll(1, 1, 2, 2);
        due("9 construct", x.construct(), 4);
        dueResults("9", "1,2,03,01");
        dueOnes("9", 4);
        appendAll(0, 1);
        due("9 two players", x.construct(), 2);
        dueResults("9", ",0");
        constructGreat9();
    }

    private static void constructGreat9() {
        freshOf(2);
        int[] scores = {5, 4, 5, 4, 5, 4, 5, 4, 5, 4};
        appendAll(scores);
        due("9 ten players", x.construct(), 10);
        for (int p = 0; p < 10; p++) {
            due("9 score of " + p, x.score(p), scores[p]);
        }
        due("9 the sequence stays", x.clearSequence(), 10);
        due("9 undo", x.undo(), 1);
        due("9 undo", x.players(), 2);
    }

    private static void enter10() {
        fresh();
        due("10 empty text", x.enter(), 0);
        due("10 that is a change", x.undo(), 0);
        typeAll("3>1;0<2;3>1;");
        due("10 enter", x.enter(), 3);
        dueResults("10", "13,2,03,1");
        typeAll("3>1;3<1;");
        due("10 one after the other", x.enter(), 2);
        due("10 the last one counts", x.beats(1, 3), 1);
        due("10 one change", x.undo(), 1);
        due("10 undone", x.beats(3, 1), 1);
        due("10 the text stays", x.clearText(), 8);
        typeAll("3<1;0>4;");
        due("10 fault", x.enter(), NOT_POSSIBLE);
        due("10 nothing entered", x.beats(3, 1), 1);
        due("10 no change", x.undo(), 0);
        x.reset(5);
        due("10 now no fault", x.enter(), 2);
        enterThirty10();
    }

    private static void enterThirty10() {
        freshOf(10);
        x.clearText();
        for (int i = 0; i < 30; i++) {
            int a = i % 5;
            int b = 5 + i / 5 % 5;
            x.type('0' + a);
            x.type('<');
            x.type('0' + b);
            x.type(';');
        }
        due("10 thirty results", x.enter(), 30);
        due("10 thirty results", x.score(9), 5);
        due("10 full text stays", x.type(';'), LIMIT);
    }

    private static void recall11() {
        fresh();
        x.setResult(3, 0);
        x.setWeight(1, 2, 77);
        x.store();
        due("11 another one", x.reset(7), 4);
        due("11 recall", x.recall(), 4);
        dueResults("11", "12,23,3,0");
        due("11 weights too", x.weight(2, 1), 77);
        due("11 a change", x.undo(), 3);
        due("11 undone", x.players(), 7);
        due("11 it stays stored", x.recall(), 4);
        x.setResult(0, 3);
        x.setWeight(1, 2, 5);
        due("11 changes do not reach the stored one", x.difference(), 1);
        x.recall();
        due("11 not its weights either", x.weight(1, 2), 77);
        due("11 recalled twice", x.recall(), 4);
        due("11 history is full", x.undo(), 7);
    }

    private static void undo12() {
        fresh();
        due("12 nothing", x.undo(), NOT_POSSIBLE);
        for (int weight = 2; weight <= 9; weight++) {
            x.setWeight(0, 1, weight);
        }
        for (int left = 7; left >= 0; left--) {
            due("12 undo", x.undo(), left);
            due("12 undone", x.weight(0, 1), left + 1);
        }
        due("12 no more", x.undo(), NOT_POSSIBLE);
        due("12 it stays", x.weight(0, 1), 1);
        for (int weight = 2; weight <= 21; weight++) {
            x.setWeight(0, 1, weight);
        }
        for (int left = 7; left >= 0; left--) {
            due("12 undo of many", x.undo(), left);
            due("12 undone of many", x.weight(0, 1), 13 + left);
        }
        due("12 older ones are dropped", x.undo(), NOT_POSSIBLE);
        undoBetweenChanges12();
    }

    private static void undoBetweenChanges12() {
        fresh();
        x.setResult(3, 0);
        x.setResult(2, 0);
        due("12 between", x.undo(), 1);
        x.reset(10);
        x.setResult(9, 0);
        due("12 between", x.undo(), 2);
        due("12 between", x.undo(), 1);
        due("12 number of players", x.players(), 4);
        dueResults("12", "12,23,3,0");
        due("12 between", x.undo(), 0);
        dueResults("12", "123,23,3,");
        due("12 between", x.undo(), NOT_POSSIBLE);
        x.store();
        appendAll(1, 1);
        typeAll("0>1;");
        x.setResult(1, 0);
        x.undo();
        due("12 not the sequence", x.clearSequence(), 2);
        due("12 not the text", x.clearText(), 4);
    }

    private static void undoOfEachChange12() {
        freshCircle(5);
        x.store();
        for (int change = 0; change < 10; change++) {
            appendAll(0, 1);
            typeAll("4>0;0>4;4>1;1>0;2>0;");
            x.setWeight(0, 1, 50 + change);
            makeChange(change);
            due("12 change " + change, x.undo(), 7);
            due("12 change " + change, x.players(), 5);
            due("12 change " + change, x.difference(), 0);
            due("12 change " + change, x.weight(1, 0), 50 + change);
            x.setWeight(0, 1, 1);
        }
    }

    private static void makeChange(int change) {
        switch (change) {
            case 0: x.reset(5); break;
            case 1: x.setResult(1, 0); break;
            case 2: x.setWeight(0, 1, 99); break;
            case 3: x.reverseTriangle(0, 2, 4); break;
            case 4: x.reversePath(1, 0); break;
            case 5: x.reversePlayer(1); break;
            case 6: x.exchange(1, 3); break;
            case 7: x.construct(); break;
            case 8: x.enter(); break;
            default: x.recall();
        }
    }

    private static void errorsRecordNothing12() {
        fresh();
        x.setWeight(0, 1, 2);
        x.reset(1);
        x.setResult(0, 0);
        x.setWeight(0, 1, 0);
        x.reverseTriangle(0, 1, 2);
        x.reversePath(3, 0);
        x.reversePlayer(4);
        x.exchange(0, 4);
        x.construct();
        x.type('x');
        x.enter();
        x.append(3);
        x.store();
        due("12 one change only", x.undo(), 0);
        due("12 undo is none", x.undo(), NOT_POSSIBLE);
    }

    // ---- sequence and text

    private static void append13() {
        fresh();
        due("13 least", x.append(0), 1);
        due("13 greatest", x.append(9), 2);
        for (int score : new int[] {Integer.MIN_VALUE, -1, 10, Integer.MAX_VALUE}) {
            due("13 append(" + score + ")", x.append(score), INVALID);
        }
        for (int i = 3; i <= 10; i++) {
            due("13 up to ten", x.append(5), i);
        }
        due("13 full", x.append(0), LIMIT);
        due("13 invalid before full", x.append(10), INVALID);
        due("13 invalid before full", x.append(-1), INVALID);
        due("13 length stays", x.clearSequence(), 10);
        due("13 no change", x.undo(), NOT_POSSIBLE);
    }

    private static void clearSequence14() {
        fresh();
        due("14 empty", x.clearSequence(), 0);
        appendAll(2, 2, 2);
        due("14 three", x.clearSequence(), 3);
        due("14 again", x.clearSequence(), 0);
        due("14 begins anew", x.append(7), 1);
        appendAll(9, 8, 7, 6, 5, 4, 3, 2, 1, 0);
        due("14 ten", x.clearSequence(), 10);
        due("14 no old numbers", x.append(0), 1);
        x.append(1);
        due("14 no old numbers", x.checkSequence(), 0);
        due("14 no change", x.undo(), NOT_POSSIBLE);
    }

    private static void dueCheck(int want, int... numbers) {
        appendAll(numbers);
        due("15 " + java.util.Arrays.toString(numbers), x.checkSequence(), want);
    }

    private static void checkSequence15() {
        fresh();
        dueCheck(NOT_POSSIBLE);
        dueCheck(NOT_POSSIBLE, 0);
        dueCheck(NOT_POSSIBLE, 9);
        dueCheck(0, 1, 0);
        dueCheck(2, 1, 1);
        dueCheck(2, 0, 0);
        dueCheck(0, 2, 0, 1);
        dueCheck(2, 3, 0, 0);
        dueCheck(2, 0, 9, 0);
        dueCheck(3, 0, 1, 1);
        dueCheck(3, 1, 1, 2);
        dueCheck(3, 5, 1, 0, 1, 3);
        dueCheck(4, 9, 9, 9, 9);
        dueCheck(0, 9, 8, 7, 6, 5, 4, 3, 2, 1, 0);
        dueCheck(0, 4, 5, 4, 5, 4, 5, 4, 5, 4, 5);
        dueCheck(10, 9, 9, 9, 9, 9, 9, 9, 9, 9, 9);
        dueCheck(10, 4, 4, 4, 4, 4, 4, 4, 5, 5, 6);
        dueCheck(8, 9, 8, 0, 1, 2, 3, 4, 5, 6, 6);
        dueCheck(9, 9, 7, 0, 1, 2, 3, 4, 5, 6, 7);
        dueCheck(2, 0, 0, 0, 0, 0, 0, 0, 0, 0, 0);
    }

    private static void type16() {
        fresh();
        for (int character : new int[] {Integer.MIN_VALUE, -1, 0, 31, 127, 48 + 65536, Integer.MAX_VALUE}) {
            due("16 type(" + character + ")", x.type(character), INVALID);
        }
        due("16 least", x.type(32), 1);
        due("16 greatest", x.type(126), 2);
        for (int i = 3; i <= 120; i++) {
            due("16 up to 120", x.type('a'), i);
        }
        due("16 full", x.type('a'), LIMIT);
        due("16 invalid before full", x.type(127), INVALID);
        due("16 length stays", x.clearText(), 120);
        due("16 no change", x.undo(), NOT_POSSIBLE);
    }

    private static void clearText17() {
        fresh();
        due("17 empty", x.clearText(), 0);
        typeAll("0>1");
        due("17 three", x.clearText(), 3);
        due("17 again", x.clearText(), 0);
        due("17 begins anew", x.type('1'), 1);
        x.type('>');
        due("17 no old characters", x.fault(), 0);
        due("17 no change", x.undo(), NOT_POSSIBLE);
    }

    private static void dueFault(String text, int want) {
        typeAll(text);
        due("18 fault of " + text, x.fault(), want);
        due("18 entering " + text, x.enter(), want == NOT_FOUND ? text.length() / 4 : NOT_POSSIBLE);
    }

    private static void fault18() {
        fresh();
        dueFault("", NOT_FOUND);
        dueFault("0>1;", NOT_FOUND);
        dueFault("3<2;2>0;", NOT_FOUND);
        dueFault("0", 0);
        dueFault("0>", 0);
        dueFault("0>1", 0);
        dueFault("0>1;2", 4);
        dueFault("0>1;2>", 4);
        dueFault("0>1;2>1", 4);
        dueFault("0>0;", 0);
        dueFault("0>1;1>1;", 4);
        dueFault("0>4;", 0);
        dueFault("4<0;", 0);
        dueFault("9>8;", 0);
        dueFault("0=1;", 0);
        dueFault("0>1,", 0);
        dueFault(" 0>1;", 0);
        dueFault("0>1; ", 4);
        dueFault("0>1;;", 4);
        dueFault("/>1;", 0);
        dueFault("0>:;", 0);
        dueFault("a>1;", 0);
        dueFault("0>b;", 0);
        dueFault("0>1;0>1;0>1;0>4;0>1;x", 12);
        faultOfGreat18();
    }

    private static void faultOfGreat18() {
        freshOf(10);
        dueFault("9>8;0<9;", NOT_FOUND);
        dueFault("9>9;", 0);
        dueFault("0>1;".repeat(29) + "0>1", 116);
        dueFault("0>1;".repeat(30), NOT_FOUND);
        dueFault("0>1;".repeat(29) + "0>1:", 116);
        dueFault("8>9;", NOT_FOUND);
        x.reset(9);
        due("18 depends on the players", x.fault(), 0);
        x.undo();
        due("18 depends on the players", x.fault(), NOT_FOUND);
    }

    // ---- results and scores

    private static void players19() {
        fresh();
        for (int n = 2; n <= 10; n++) {
            x.reset(n);
            due("19 players", x.players(), n);
        }
    }

    private static void beats20() {
        fresh();
        due("20 beats", x.beats(0, 3), 1);
        due("20 is beaten", x.beats(3, 0), 0);
        due("20 same", x.beats(3, 3), 0);
        for (int no : NO_PLAYERS) {
            due("20 a " + no, x.beats(no, 0), INVALID);
            due("20 b " + no, x.beats(0, no), INVALID);
            due("20 both " + no, x.beats(no, no), INVALID);
        }
    }

    private static void weight21() {
        fresh();
        x.setWeight(3, 1, 42);
        due("21 weight", x.weight(1, 3), 42);
        due("21 weight", x.weight(3, 1), 42);
        due("21 same", x.weight(3, 3), INVALID);
        due("21 same", x.weight(0, 0), INVALID);
        for (int no : NO_PLAYERS) {
            due("21 a " + no, x.weight(no, 0), INVALID);
            due("21 b " + no, x.weight(0, no), INVALID);
            due("21 both " + no, x.weight(no, no), INVALID);
        }
    }

    private static void score22() {
        fresh();
        x.setResult(3, 0);
        int[] scores = {2, 2, 1, 1};
        for (int p = 0; p < 4; p++) {
            due("22 score of " + p, x.score(p), scores[p]);
        }
        for (int no : NO_PLAYERS) {
            due("22 player " + no, x.score(no), INVALID);
        }
        freshOf(10);
        due("22 greatest", x.score(0), 9);
        due("22 least", x.score(9), 0);
    }

    private static void scoreAt23() {
        fresh();
        x.setResult(3, 0);
        int[] scores = {1, 1, 2, 2};
        for (int place = 0; place < 4; place++) {
            due("23 place " + place, x.scoreAt(place), scores[place]);
        }
        for (int no : NO_PLAYERS) {
            due("23 place " + no, x.scoreAt(no), INVALID);
        }
        freshOf(10);
        due("23 last", x.scoreAt(9), 9);
        freshCircle(9);
        due("23 all the same", x.scoreAt(0), 4);
        due("23 all the same", x.scoreAt(8), 4);
    }

    // ---- structure

    private static void triangles24() {
        fresh();
        due("24 none", x.triangles(), 0);
        x.setResult(3, 0);
        due("24 two", x.triangles(), 2);
        freshOf(2);
        due("24 two players", x.triangles(), 0);
        freshCircle(3);
        due("24 circle of 3", x.triangles(), 1);
        freshCircle(9);
        due("24 circle of 9", x.triangles(), 30);
    }

    private static void distance25() {
        fresh();
        due("25 same", x.distance(2, 2), 0);
        due("25 one", x.distance(0, 3), 1);
        due("25 none", x.distance(3, 2), NOT_FOUND);
        x.setResult(3, 0);
        due("25 two", x.distance(0, 3), 2);
        due("25 two", x.distance(3, 1), 2);
        due("25 three", x.distance(2, 1), 3);
        for (int no : NO_PLAYERS) {
            due("25 from " + no, x.distance(no, 0), INVALID);
            due("25 to " + no, x.distance(0, no), INVALID);
            due("25 both " + no, x.distance(no, no), INVALID);
        }
    }

    private static void components26() {
        fresh();
        due("26 four", x.components(), 4);
        x.setResult(2, 0);
        due("26 two", x.components(), 2);
        x.setResult(3, 0);
        due("26 one", x.components(), 1);
        freshOf(10);
        due("26 ten", x.components(), 10);
        freshOf(2);
        due("26 two players", x.components(), 2);
    }

    private static void componentOf27() {
        freshOf(7);
        x.setResult(3, 1);
        x.setResult(6, 4);
        int[] numbers = {0, 1, 1, 1, 2, 2, 2};
        for (int p = 0; p < 7; p++) {
            due("27 component of " + p, x.componentOf(p), numbers[p]);
        }
        due("27 components", x.components(), 3);
        x.reversePlayer(0);
        due("27 now the last one", x.componentOf(0), 2);
        due("27 now the first one", x.componentOf(2), 0);
        for (int no : new int[] {Integer.MIN_VALUE, -1, 7, 32, Integer.MAX_VALUE}) {
            due("27 player " + no, x.componentOf(no), INVALID);
        }
        freshOf(10);
        due("27 last of ten", x.componentOf(9), 9);
    }

    private static void spanningPaths28() {
        freshOf(10);
        due("28 one", x.spanningPaths(), 1);
        x.setResult(9, 0);
        due("28 strong with ten", x.spanningPaths(), 257);
        freshCircle(3);
        due("28 circle of 3", x.spanningPaths(), 3);
        freshCircle(5);
        due("28 circle of 5", x.spanningPaths(), 15);
        freshCircle(7);
        due("28 circle of 7", x.spanningPaths(), 175);
        freshOf(2);
        due("28 two players", x.spanningPaths(), 1);
    }

    private static void duePath(String what, int... players) {
        for (int place = 0; place < players.length; place++) {
            due(what + " at " + place, x.pathAt(place), players[place]);
        }
    }

    private static void pathAt29() {
        fresh();
        duePath("29", 0, 1, 2, 3);
        x.reversePlayer(0);
        duePath("29 the first one now last", 1, 2, 3, 0);
        fresh();
        x.setResult(3, 0);
        x.setResult(2, 1);
        duePath("29 not by number", 0, 2, 1, 3);
        for (int no : NO_PLAYERS) {
            due("29 place " + no, x.pathAt(no), INVALID);
        }
        freshOf(10);
        duePath("29 ten", 0, 1, 2, 3, 4, 5, 6, 7, 8, 9);
    }

    private static void dueCycle(String what, int... players) {
        for (int place = 0; place < players.length; place++) {
            due(what + " at " + place, x.cycleAt(players[0], players.length, place), players[place]);
        }
    }

    private static void cycleAt30() {
        fresh();
        due("30 none", x.cycleAt(0, 4, 3), NOT_FOUND);
        x.setResult(3, 0);
        dueCycle("30", 0, 1, 3);
        dueCycle("30", 0, 1, 2, 3);
        dueCycle("30", 2, 3, 0);
        dueCycle("30", 3, 0, 1);
        due("30 length 2", x.cycleAt(0, 2, 0), INVALID);
        due("30 length 5", x.cycleAt(0, 5, 0), INVALID);
        due("30 place -1", x.cycleAt(0, 3, -1), INVALID);
        due("30 place 3 of 3", x.cycleAt(0, 3, 3), INVALID);
        due("30 place 4 of 4", x.cycleAt(0, 4, 4), INVALID);
        for (int no : NO_PLAYERS) {
            due("30 player " + no, x.cycleAt(no, 3, 0), INVALID);
        }
        due("30 wild", x.cycleAt(0, Integer.MIN_VALUE, 0), INVALID);
        due("30 wild", x.cycleAt(0, Integer.MAX_VALUE, 7), INVALID);
        due("30 wild", x.cycleAt(0, 3, Integer.MAX_VALUE), INVALID);
        cyclesOfParts30();
    }

    private static void cyclesOfParts30() {
        freshOf(5);
        x.setResult(2, 0);
        dueCycle("30 a part", 0, 1, 2);
        due("30 longer than the part", x.cycleAt(0, 4, 0), NOT_FOUND);
        due("30 outside", x.cycleAt(3, 3, 0), NOT_FOUND);
        due("30 invalid before none", x.cycleAt(3, 3, 3), INVALID);
        freshOf(10);
        x.setResult(9, 0);
        dueCycle("30 ten", 0, 1, 2, 3, 4, 5, 6, 7, 8, 9);
        dueCycle("30 ten", 5, 6, 7, 8, 9, 0, 1, 2, 3, 4);
        freshOf(2);
        due("30 two players", x.cycleAt(0, 3, 0), INVALID);
        due("30 two players", x.cycleAt(0, 2, 0), INVALID);
    }

    private static void cycleLengths31() {
        freshOf(7);
        due("31 none", x.cycleLengths(0), 0);
        x.setResult(3, 0);
        x.setResult(6, 4);
        due("31 a part of 4", x.cycleLengths(0), 2);
        due("31 a part of 3", x.cycleLengths(5), 1);
        for (int no : new int[] {Integer.MIN_VALUE, -1, 7, 32, Integer.MAX_VALUE}) {
            due("31 player " + no, x.cycleLengths(no), INVALID);
        }
        freshOf(10);
        x.setResult(9, 0);
        due("31 ten", x.cycleLengths(4), 8);
        freshOf(2);
        due("31 two players", x.cycleLengths(1), 0);
    }

    // ---- orders and winners

    private static void leastCost32() {
        fresh();
        due("32 nothing", x.leastCost(), 0);
        x.setWeight(0, 1, 100);
        due("32 weights alone", x.leastCost(), 0);
        x.setResult(3, 0);
        due("32 one", x.leastCost(), 1);
        x.setWeight(0, 3, 3);
        due("32 the least", x.leastCost(), 2);
        x.undo();
        due("32 undone", x.leastCost(), 1);
        x.recall();
        due("32 recalled", x.leastCost(), 0);
        x.reset(3);
        x.setResult(2, 0);
        x.setWeight(0, 1, 100);
        x.setWeight(1, 2, 100);
        x.setWeight(0, 2, 100);
        due("32 greatest weights", x.leastCost(), 100);
        freshCircle(5);
        due("32 circle of 5", x.leastCost(), 3);
    }

    private static void dueOrder(String what, int... players) {
        for (int place = 0; place < players.length; place++) {
            due(what + " at " + place, x.orderAt(place), players[place]);
        }
    }

    private static void orderAt33() {
        fresh();
        dueOrder("33", 0, 1, 2, 3);
        x.setResult(3, 0);
        dueOrder("33 the least of several", 0, 1, 2, 3);
        x.setWeight(0, 3, 2);
        dueOrder("33 the least of several", 0, 1, 2, 3);
        x.setWeight(0, 3, 3);
        dueOrder("33 by weight", 1, 2, 3, 0);
        x.undo();
        dueOrder("33 undone", 0, 1, 2, 3);
        for (int no : NO_PLAYERS) {
            due("33 place " + no, x.orderAt(no), INVALID);
        }
        freshOf(10);
        x.reversePlayer(4);
        dueOrder("33 ten", 0, 1, 2, 3, 5, 6, 7, 8, 9, 4);
        x.exchange(4, 9);
        dueOrder("33 ten", 0, 1, 2, 3, 5, 6, 7, 8, 4, 9);
    }

    private static void winners34() {
        fresh();
        for (int rule = 0; rule < 5; rule++) {
            due("34 rule " + rule, x.winners(rule), 1);
        }
        for (int rule : new int[] {Integer.MIN_VALUE, -1, 5, Integer.MAX_VALUE}) {
            due("34 rule " + rule, x.winners(rule), INVALID);
        }
        freshOf(10);
        x.reversePlayer(9);
        for (int rule = 0; rule < 5; rule++) {
            due("34 last of ten, rule " + rule, x.winners(rule), 512);
        }
        fewWeights34();
        allRulesDiffer34();
    }

    private static void fewWeights34() {
        fresh();
        x.setResult(3, 0);
        x.setWeight(0, 3, 2);
        due("34 top", x.winners(TournamentDesk.TOP), 15);
        due("34 kings", x.winners(TournamentDesk.KINGS), 11);
        due("34 scores", x.winners(TournamentDesk.SCORES), 3);
        due("34 chains", x.winners(TournamentDesk.CHAINS), 11);
        due("34 order", x.winners(TournamentDesk.ORDER), 11);
    }

    /** Found by search: each rule has another set of winners. */
    private static void allRulesDiffer34() {
        freshOf(7);
        enterNow("2>0;3>0;6>0;3>1;4>1;6>1;5>3;");
        x.setWeight(1, 2, 4);
        x.setWeight(4, 2, 4);
        due("34 all differ, top", x.winners(TournamentDesk.TOP), 127);
        due("34 all differ, kings", x.winners(TournamentDesk.KINGS), 31);
        due("34 all differ, scores", x.winners(TournamentDesk.SCORES), 4);
        due("34 all differ, chains", x.winners(TournamentDesk.CHAINS), 15);
        due("34 all differ, order", x.winners(TournamentDesk.ORDER), 10);
        due("34 all differ, no winner by all", x.undisputed(), 0);
    }

    private static void undisputed35() {
        fresh();
        due("35 one", x.undisputed(), 1);
        x.setResult(3, 0);
        due("35 the order alone decides", x.undisputed(), 1);
        x.setWeight(0, 3, 2);
        due("35 two", x.undisputed(), 2);
        x.setWeight(0, 3, 3);
        due("35 by weight", x.undisputed(), 1);
        freshCircle(9);
        due("35 circle of 9", x.undisputed(), 9);
    }

    // ---- the stored tournament

    private static void store36() {
        fresh();
        x.setWeight(0, 1, 12);
        x.setResult(3, 0);
        due("36 store", x.store(), 4);
        due("36 no change", x.undo(), 1);
        due("36 stored is what was present", x.difference(), 1);
        x.reset(10);
        due("36 in place of it", x.store(), 10);
        x.setResult(9, 0);
        x.recall();
        due("36 recalled", x.players(), 10);
        due("36 recalled", x.beats(0, 9), 1);
    }

    private static void difference37() {
        fresh();
        due("37 none", x.difference(), 0);
        x.setWeight(0, 1, 9);
        due("37 not by weights", x.difference(), 0);
        x.setResult(3, 0);
        due("37 one", x.difference(), 1);
        x.exchange(1, 2);
        due("37 two", x.difference(), 2);
        x.reset(5);
        due("37 other number", x.difference(), NOT_POSSIBLE);
        x.reset(10);
        x.store();
        for (int p = 0; p < 5; p++) {
            x.exchange(p, 9 - p);
        }
        due("37 all", x.difference(), 45);
    }

    private static void isLikeStored38() {
        fresh();
        due("38 same", x.isLikeStored(), 1);
        x.exchange(0, 3);
        x.exchange(1, 3);
        x.setWeight(0, 1, 50);
        due("38 other numbers", x.isLikeStored(), 1);
        x.recall();
        x.setResult(3, 0);
        due("38 other scores", x.isLikeStored(), 0);
        x.reset(5);
        due("38 other number of players", x.isLikeStored(), 0);
        sameScores38();
    }

    /** Two tournaments of 5 with the scores 1, 2, 2, 2, 3: they differ in whom the best one loses to. */
    private static void sameScores38() {
        freshOf(5);
        enterNow("0>1;0>2;0>3;4>0;1>2;2>3;3>1;1>4;2>4;3>4;");
        x.store();
        int first = x.scoreAt(4);
        enterNow("0>1;0>2;4>0;0<3;0>4;1>2;1>3;2>3;2>4;3>4;4>1;");
        due("38 same scores", x.scoreAt(4), first);
        due("38 same scores", x.scoreAt(0), 1);
        due("38 but not alike", x.isLikeStored(), 0);
        x.recall();
        x.exchange(0, 4);
        x.exchange(2, 3);
        due("38 alike", x.isLikeStored(), 1);
        freshCircle(9);
        x.store();
        x.exchange(0, 5);
        x.exchange(2, 7);
        due("38 circle of 9", x.isLikeStored(), 1);
        x.reverseTriangle(1, 4, 8);
        due("38 circle of 9 with a triangle reversed", x.isLikeStored(), 0);
    }

    private static void enterNow(String results) {
        typeAll(results);
        Check.holds("enter " + results, x.enter() > 0);
    }

    private static void towardsStored39() {
        fresh();
        due("39 none", x.towardsStored(), NOT_FOUND);
        x.setResult(3, 0);
        due("39 one differs only", x.towardsStored(), NOT_FOUND);
        x.store();
        x.reverseTriangle(0, 1, 3);
        due("39 three differ", x.towardsStored(), 13);
        x.recall();
        x.reverseTriangle(0, 2, 3);
        due("39 three differ", x.towardsStored(), 23);
        x.reset(5);
        due("39 other number", x.towardsStored(), NOT_POSSIBLE);
        twoOfThree39();
        freshOf(10);
        enterNow("9>7;");
        x.store();
        x.reverseTriangle(7, 8, 9);
        due("39 greatest", x.towardsStored(), 789);
        x.setResult(8, 7);
        x.setResult(9, 8);
        x.setResult(9, 7);
        due("39 two differ but no cycle", x.towardsStored(), NOT_FOUND);
    }

    private static void twoOfThree39() {
        fresh();
        x.setResult(3, 1);
        x.setResult(1, 0);
        due("39 two of three differ", x.towardsStored(), 13);
        x.setResult(3, 2);
        x.setResult(2, 0);
        due("39 the least of several", x.towardsStored(), 13);
        x.setResult(0, 1);
        due("39 the first one is a triangle no more", x.towardsStored(), 23);
        x.setWeight(0, 2, 100);
        due("39 not by weights", x.towardsStored(), 23);
    }
}
