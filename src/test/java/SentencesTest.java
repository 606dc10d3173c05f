/**
 * The sentences of the document that name no boundary case but say what a call answers or changes, from the first
 * line to the last one: for each of them a test of its own, with the sentence in the remark before it. The sentences
 * that name a boundary case are in the tests named ..EdgesTest, the five examples in ExamplesTest.
 */
public final class SentencesTest {
    /** Of six players, for the changes: each pair has another weight. */
    private static final int SIX = 6;
    /** Player 0 is first of a chain that cannot be extended only if all of 1, 2, 3, 4 are in it. */
    private static final String CHAIN_OF_FIVE = "1234,2345,346,47,8,0234678,013478,01248,0123";
    /** Player 0 has the greatest score, but whatever chain this player leads, one of 7, 8, 9 beats all of it. */
    private static final String NO_CHAIN = "123456,237,34568,4568,159,169,149,023456,014567,012378";
    /** Components {0, 1, 2} and {3, 4, 5}, each a cycle. */
    private static final String TWO_CYCLES = "1345,2345,0345,4,5,3";

    public static void main(String[] args) {
        description();
        changes();
        undoing();
        sequenceAndText();
        resultsAndScores();
        structure();
        ordersAndWinners();
        storedTournament();
        Check.end();
    }

    private static void description() {
        pathOfDifferentPlayers();
        scoreOfAPlayer();
        comparedByTheFirstDifferentPlayer();
        reachedFromEachOther();
        orderOfAllPlayers();
        someWinnersByEachRule();
        firstOneOfAChain();
        chainThatCanBeExtended();
    }

    private static void changes() {
        setsAResult3();
        setsTheWeight4();
        reversesThreeResults5();
        reversesAllAlongThePath6();
        reversesThePlayer7();
        exchangesNumbers8();
        constructs9();
        takesAwayOneAfterTheOther9();
        meaningOfAResult10();
        makesTheStoredOnePresent11();
    }

    private static void undoing() {
        takesTheLatestState();
        countsWhatCanBeUndone12();
        eachAnswerIsOfThePresentOne();
    }

    private static void sequenceAndText() {
        appendsANumber13();
        zeroForAScoreSequence15();
        appendsACharacter16();
        faultOfTheText18();
    }

    private static void resultsAndScores() {
        tellsWhoBeatsWhom20();
        returnsTheWeight21();
        returnsTheScore22();
        returnsTheScoreAtThisPlace23();
    }

    private static void structure() {
        lengthOfTheShortestPath25();
        numberOfComponents26();
        numberOfTheComponent27();
        playerOfThePath29();
        playerOfTheCycle30();
        countsTheLengths31();
    }

    private static void ordersAndWinners() {
        playerOfTheOrder33();
        setOfTheWinners34();
        winnersByAllFiveRules35();
    }

    private static void storedTournament() {
        storesThePresentOne36();
        countsThePairs37();
        tellsWhetherEqual38();
        moreLikeTheStoredOne39();
        theLeastNotTheBest39();
    }

    // ---- helpers

    /** Who beats whom initially, but for the pairs, each told by its two players: "13 02". */
    private static String initialBut(int n, String pairs) {
        StringBuilder all = new StringBuilder();
        for (int a = 0; a < n; a++) {
            all.append(a == 0 ? "" : ",");
            int length = all.length();
            for (int b = 0; b < n; b++) {
                boolean turned = pairs.contains("" + a + b) || pairs.contains("" + b + a);
                all.append(a != b && a < b != turned ? "" + b : "");
            }
            all.append(all.length() == length ? "-" : "");
        }
        return all.toString();
    }

    private static int weightOf(int a, int b) {
        return 10 * Math.min(a, b) + Math.max(a, b) + 1;
    }

    /** Gives each pair of six players a weight of its own. */
    private static String weighed() {
        StringBuilder run = new StringBuilder("reset(6)");
        for (int a = 0; a < SIX; a++) {
            for (int b = a + 1; b < SIX; b++) {
                run.append("; setWeight(" + a + ", " + b + ", " + weightOf(a, b) + ")");
            }
        }
        return run + "; ";
    }

    /** All results, and for each pair the weight that it was given when its players had these numbers. */
    private static String dueAll(String all, int... numbers) {
        StringBuilder run = new StringBuilder("; all = " + all);
        for (int a = 0; a < SIX; a++) {
            for (int b = 0; b < SIX; b++) {
                int due = a == b ? -1 : weightOf(numbers[a], numbers[b]);
                run.append("; weight(" + a + ", " + b + ") = " + due);
            }
        }
        return run.toString();
    }

    private static String dueAll(String all) {
        return dueAll(all, 0, 1, 2, 3, 4, 5);
    }

    /** The places of the told kind, from 0 on: places("pathAt", "021") is "pathAt(0) = 0; pathAt(1) = 2; ...". */
    private static String places(String call, String players) {
        StringBuilder run = new StringBuilder();
        for (int place = 0; place < players.length(); place++) {
            run.append("; " + call + place + ") = " + players.charAt(place));
        }
        return run.toString();
    }

    // ---- the description

    /** Tournament: "A path is a sequence of different players, each of which beats the next one". */
    private static void pathOfDifferentPlayers() {
        Told.due("different players in a cycle", Told.of(TWO_CYCLES) + "; cycleAt(0, 6, 0) = -4; cycleAt(3, 6, 0) = -4;"
            + " cycleLengths(0) = 1; cycleLengths(4) = 1; cycleAt(0, 3, 2) = 2; cycleAt(0, 4, 0) = -4");
        Told.due("different players in a spanning path", Told.of(TWO_CYCLES) + "; spanningPaths() = 9"
            + places("pathAt(", "012345"));
        Told.due("each beats the next one", Told.of("2,03,13,0") + "; spanningPaths() = 5; distance(0, 1) = 2;"
            + " distance(0, 3) = 2; distance(3, 1) = 3" + places("pathAt(", "0213"));
    }

    /** Tournament: "The score of a player is the number of players whom this player beats". */
    private static void scoreOfAPlayer() {
        Told.due("whom this player beats", Told.of("12,23,3,0") + "; score(0) = 2; score(1) = 2; score(2) = 1;"
            + " score(3) = 1; setResult(3, 1); score(3) = 2; score(1) = 1; setResult(0, 3); score(0) = 3;"
            + " score(3) = 1; setWeight(0, 3, 50); score(0) = 3");
    }

    /** Tournament: "Sequences of players are compared by their first different player": not by a later one. */
    private static void comparedByTheFirstDifferentPlayer() {
        String turned = Told.of("2,0,1");
        Told.due("of the paths 021, 102, 210", turned + places("pathAt(", "021"));
        Told.due("of the orders 021, 102, 210", turned + places("orderAt(", "021") + "; leastCost() = 1");
        Told.due("of the cycles 0124, 0234, 0314, and of 1240, 1403", Told.of("123,24,34,14,0")
            + places("cycleAt(0, 4, ", "0124") + places("cycleAt(1, 4, ", "1240") + places("cycleAt(1, 3, ", "123"));
        Told.due("of the shortest paths 0148, 0238", Told.of("12,2345678,345678,045678,05678,0678,078,08,0")
            + "; distance(0, 3) = 2; reversePath(0, 3) = 2; beats(3, 1) = 1; beats(1, 0) = 1; beats(2, 0) = 0;"
            + " beats(3, 2) = 0");
        Told.due("of the triangles 014 and 023", "reset(5); store(); setResult(1, 0); setResult(4, 1);"
            + " setResult(2, 0); setResult(3, 2); towardsStored() = 14; setResult(1, 4); towardsStored() = 23");
    }

    /** Structure: "largest sets of players each of whom can be reached from each other one by a path". */
    private static void reachedFromEachOther() {
        Told.due("each from each other one", Told.of(TWO_CYCLES) + "; components() = 2; componentOf(0) = 0;"
            + " componentOf(1) = 0; componentOf(2) = 0; componentOf(3) = 1; componentOf(4) = 1; componentOf(5) = 1;"
            + " distance(0, 2) = 2; distance(2, 1) = 2; distance(3, 5) = 2; distance(2, 5) = 1; distance(5, 2) = -4;"
            + " setResult(5, 0); components() = 1; componentOf(3) = 0; distance(4, 2) = 4");
    }

    /** Orders: "An order is a sequence of all players": each of them once. */
    private static void orderOfAllPlayers() {
        Told.due("all of ten", Told.of("12345678,23456789,3456789,456789,56789,6789,789,89,9,0")
            + places("orderAt(", "0123456789") + "; leastCost() = 1; setWeight(0, 9, 100)"
            + places("orderAt(", "1234567890") + "; leastCost() = 8");
        Told.due("all of five", Told.of(Told.circle(5)) + places("orderAt(", "01234") + "; leastCost() = 3");
    }

    /** Winners: "There are five rules, by each of which some players are winners". */
    private static void someWinnersByEachRule() {
        for (int n = 2; n <= 5; n++) {
            for (int code = 0; code < 1 << n * (n - 1) / 2; code++) {
                TournamentDesk x = new TournamentDesk();
                x.reset(n);
                int left = code;
                for (int a = 0; a < n; a++) {
                    for (int b = a + 1; b < n; b++) {
                        x.setResult((left & 1) == 0 ? a : b, (left & 1) == 0 ? b : a);
                        left >>= 1;
                    }
                }
                for (int rule = 0; rule < 5; rule++) {
                    boolean some = x.winners(rule) > 0 && x.winners(rule) < 1 << n;
                    Check.holds("some winners by " + rule + ", " + n + " players, code " + code, some);
                }
            }
        }
    }

    /** Winners: "each player who is the first one of a chain that cannot be extended": also of a long chain alone. */
    private static void firstOneOfAChain() {
        Told.due("first of a chain of three alone", Told.of("12,23,3,0") + "; winners(3) = 11");
        Told.due("first of a chain of five alone", Told.of(CHAIN_OF_FIVE) + "; winners(3) = 483;"
            + " setResult(8, 4); winners(3) = 482; setResult(4, 8); winners(3) = 483");
        Told.due("the same players with other numbers", Told.of(CHAIN_OF_FIVE) + "; exchange(0, 8); exchange(4, 5);"
            + " winners(3) = 467");
    }

    /** Winners: "it can be extended if some player beats all its players": one who is in none of its chains. */
    private static void chainThatCanBeExtended() {
        Told.due("each chain can be extended", Told.of(NO_CHAIN) + "; winners(3) = 1012; winners(2) = 897;"
            + " setResult(1, 9); winners(3) = 1015");
    }

    // ---- the changes

    /** Promise 3: "Sets a result": this one alone, and no weight. */
    private static void setsAResult3() {
        for (int a = 0; a < SIX; a++) {
            for (int b = a + 1; b < SIX; b++) {
                Told.due("3 sets a result", weighed() + "setResult(" + b + ", " + a + ") = 0"
                    + dueAll(initialBut(SIX, "" + a + b)) + "; setResult(" + b + ", " + a + ") = 1"
                    + dueAll(initialBut(SIX, "" + a + b)) + "; setResult(" + a + ", " + b + ") = 0"
                    + dueAll(initialBut(SIX, "")));
            }
        }
    }

    /** Promise 4: "Sets the weight of a pair": this one alone, and no result. */
    private static void setsTheWeight4() {
        Told.due("4 sets the weight", weighed() + "setResult(5, 0); setWeight(5, 0, 100) = 6; setWeight(0, 5, 6) = 100"
            + dueAll(initialBut(SIX, "05")) + "; setWeight(3, 1, 99) = 14; weight(1, 3) = 99; weight(3, 1) = 99;"
            + " setWeight(1, 3, 14) = 99" + dueAll(initialBut(SIX, "05")));
    }

    /** Promise 5: "Reverses the three results of a triangle": these alone, and no weight. */
    private static void reversesThreeResults5() {
        for (int a = 0; a < SIX; a++) {
            for (int b = a + 1; b < SIX; b++) {
                for (int c = b + 1; c < SIX; c++) {
                    String three = "(" + b + ", " + c + ", " + a + ")";
                    String before = weighed() + "setResult(" + c + ", " + a + "); reverseTriangle" + three;
                    Told.due("5 reverses three results", before + dueAll(initialBut(SIX, "" + a + b + " " + b + c)));
                }
            }
        }
    }

    /** Promise 6: "Reverses all results along the least shortest path from a player to another one": these alone. */
    private static void reversesAllAlongThePath6() {
        for (int to = 1; to < 5; to++) {
            Told.due("6 a path of two steps", weighed() + "setResult(5, 0); reversePath(5, " + to + ") = 2"
                + dueAll(initialBut(SIX, "0" + to)));
            Told.due("6 a path of one step", weighed() + "setResult(5, 0); reversePath(" + to + ", 5) = 1"
                + dueAll(initialBut(SIX, "05 " + to + "5")));
        }
        Told.due("6 a path of three steps", weighed() + "setResult(3, 0); reversePath(2, 1) = 3"
            + dueAll(initialBut(SIX, "01 23")));
    }

    /** Promise 7: "Reverses the results of a player against all others": no other ones, and no weight. */
    private static void reversesThePlayer7() {
        for (int player = 0; player < SIX; player++) {
            StringBuilder pairs = new StringBuilder();
            for (int other = 0; other < SIX; other++) {
                pairs.append(other == player ? "" : "" + player + other + " ");
            }
            Told.due("7 reverses the results", weighed() + "reversePlayer(" + player + ") = " + player
                + dueAll(initialBut(SIX, pairs.toString())) + "; reversePlayer(" + player + ") = " + (5 - player)
                + dueAll(initialBut(SIX, "")));
        }
    }

    /** Promise 8: "Exchanges the numbers of two players": the others keep theirs. */
    private static void exchangesNumbers8() {
        for (int a = 0; a < SIX; a++) {
            for (int b = 0; b < SIX; b++) {
                int[] numbers = {0, 1, 2, 3, 4, 5};
                numbers[a] = b;
                numbers[b] = a;
                StringBuilder all = new StringBuilder();
                for (int p = 0; p < SIX; p++) {
                    all.append(p == 0 ? "" : ",").append(numbers[p] == 5 ? "-" : "");
                    for (int q = 0; q < SIX; q++) {
                        all.append(numbers[p] < numbers[q] ? "" + q : "");
                    }
                }
                Told.due("8 exchanges the numbers", weighed() + "exchange(" + a + ", " + b + ") = " + (5 - b)
                    + dueAll(all.toString(), numbers) + "; exchange(" + b + ", " + a + ") = " + (5 - b)
                    + dueAll(initialBut(SIX, "")));
            }
        }
    }

    /** Promise 9: "Constructs a tournament whose scores are the numbers of the sequence": in place of all results. */
    private static void constructs9() {
        Told.due("9 in place of all results", Told.of(Told.ladder(5)) + "; [2 2 2 2 2] construct() = 5;"
            + " all = 12,23,34,04,01; reversePlayer(2); construct() = 5; all = 12,23,34,04,01");
    }

    /**
     * Construction: "all players are left at first, each with the rest s(i)", "Then p beats as many of the players
     * that are left as the rest of p", "all others that are left beat p, and the rest of each of these decreases by 1".
     */
    private static void takesAwayOneAfterTheOther9() {
        // 1 (rest 3) beats 0, 2, 3; 3 (2) beats 0, 4; 4 (1, for it beat 1) beats 0; 0 (1) beats 2 (0, it beat 3 and 4).
        Told.due("9 one after the other", "[1 3 2 2 2] construct() = 5; all = 2,023,34,04,01");
        // 4 (4) beats 0 to 3; 3 (3) beats 0, 1, 2; 2 (2) beats 0, 5 (1, it beat 4 and 3); 5 beats 0; 0 beats 1 (0).
        Told.due("9 equal rests", "[1 2 2 3 4 3] construct() = 6; all = 1,25,05,012,0123,034");
    }

    /** Texts: ""3>1;" means that player 3 beats player 1, "3<1;" the reverse". */
    private static void meaningOfAResult10() {
        Told.due("10 player 3 beats player 1", "'3>1;' enter() = 1; all = 123,2,3,1; clearText(); '3<1;' enter() = 1;"
            + " all = 123,23,3,-");
        Told.due("10 no other result, and no weight", weighed() + "'5>0;3<4;4<1;' enter() = 3"
            + dueAll(initialBut(SIX, "05 34")));
    }

    /** Promise 11: "Makes the stored tournament the present one": its number of players, results and weights. */
    private static void makesTheStoredOnePresent11() {
        Told.due("11 all of it", weighed() + "setResult(5, 0); setResult(4, 2); store() = 6; reset(3) = 6; recall() = 6"
            + dueAll(initialBut(SIX, "05 42")) + "; leastCost(); winners(4); spanningPaths()");
    }

    // ---- undoing

    /** Changes: "Undoing takes the latest state from the history": one after the other, each but once. */
    private static void takesTheLatestState() {
        Told.due("the latest state", weighed() + "setResult(5, 0); setResult(4, 1); setWeight(0, 1, 77); undo() = 7"
            + dueAll(initialBut(SIX, "05 14")) + "; undo() = 6" + dueAll(initialBut(SIX, "05")) + "; undo() = 5"
            + dueAll(initialBut(SIX, "")) + "; undo() = 4; weight(4, 5) = 1; undo() = 3; weight(3, 5) = 1");
    }

    /** Promise 12: "Returns the number of changes that can still be undone": and so many can be. */
    private static void countsWhatCanBeUndone12() {
        Told.due("12 so many", "setResult(3, 0); setResult(2, 0); setResult(1, 0); store(); append(1); undo() = 2;"
            + " setWeight(0, 1, 2); undo() = 2; undo() = 1; undo() = 0; undo() = -2; undo() = -2");
    }

    /** Promises 32 to 35: what was asked before 1 to 509 changes is asked again behind them. */
    private static void eachAnswerIsOfThePresentOne() {
        for (int changes = 1; changes < 510; changes++) {
            StringBuilder run = new StringBuilder("leastCost() = 0; ");
            for (int i = 1; i < changes; i++) {
                run.append("setWeight(1, 2, ").append(1 + i % 50).append("); ");
            }
            Told.due("after " + changes + " changes", run + "setResult(3, 0) = 0; leastCost() = 1");
        }
    }

    // ---- sequence and text

    /** Promise 13: "Appends a number to the sequence": behind the others. */
    private static void appendsANumber13() {
        Told.due("13 behind the others", "append(0) = 1; append(2) = 2; append(1) = 3; construct() = 3; score(0) = 0;"
            + " score(1) = 2; score(2) = 1; clearSequence() = 3; append(2) = 1; append(0) = 2; append(1) = 3;"
            + " construct() = 3; score(0) = 2; score(1) = 0; score(2) = 1");
    }

    /** Promise 15: "Returns 0 if it is a score sequence": whatever the present tournament is. */
    private static void zeroForAScoreSequence15() {
        Told.due("15 whatever is present", "[1 0] checkSequence() = 0; reset(10); checkSequence() = 0; construct() = 2;"
            + " checkSequence() = 0; [2 3 4 5 6 7 8 9] checkSequence() = 0; construct() = 10; clearSequence() = 10;"
            + " [2 2 1 1] checkSequence() = 0; [4] checkSequence() = 0; [0] checkSequence() = 3");
    }

    /** Promise 16: "Appends a character to the text": behind the others. */
    private static void appendsACharacter16() {
        Told.due("16 behind the others", "type(50) = 1; type(62) = 2; type(48) = 3; type(59) = 4; enter() = 1;"
            + " all = 13,23,03,-; clearText() = 4; type(48) = 1; type(62) = 2; type(50) = 3; type(59) = 4;"
            + " enter() = 1; all = 123,23,3,-");
    }

    /** Promise 18: "Returns the fault of the text": nothing changes by it. */
    private static void faultOfTheText18() {
        Told.due("18 the fault", "'3>1;0>0;' fault() = 4; fault() = 4; all = 123,23,3,-; clearText() = 8; fault() = -4;"
            + " '3>1;' fault() = -4; all = 123,23,3,-; undo() = -2; enter() = 1; fault() = -4");
    }

    // ---- results and scores

    /** Promise 20: "Tells who beats whom": "Returns 1 if a beats b". */
    private static void tellsWhoBeatsWhom20() {
        Told.due("20 who beats whom", "setResult(3, 0); beats(3, 0) = 1; beats(0, 3) = 0; beats(0, 1) = 1;"
            + " beats(1, 0) = 0; beats(2, 3) = 1; beats(3, 2) = 0");
    }

    /** Promise 21: "Returns a weight": "Returns the weight", whoever beats whom. */
    private static void returnsTheWeight21() {
        Told.due("21 the weight", "setWeight(2, 0, 40); weight(0, 2) = 40; weight(2, 0) = 40; setResult(2, 0);"
            + " weight(0, 2) = 40; weight(2, 0) = 40; weight(0, 1) = 1; weight(2, 3) = 1");
    }

    /** Promise 22: "Returns the score of a player": "Returns the score". */
    private static void returnsTheScore22() {
        Told.due("22 the score", Told.of(NO_CHAIN) + places("score(", "6354333666"));
    }

    /** Promise 23: "Returns a number of the score sequence": "Returns the score at this place". */
    private static void returnsTheScoreAtThisPlace23() {
        Told.due("23 the score at this place", Told.of(NO_CHAIN) + places("scoreAt(", "3333456666"));
    }

    // ---- structure

    /** Promise 25: "Returns the distance between two players": "Returns the length of the shortest path". */
    private static void lengthOfTheShortestPath25() {
        Told.due("25 the shortest of several", Told.of("12,23,3,0") + "; distance(0, 3) = 2; distance(2, 1) = 3;"
            + " distance(3, 2) = 2; distance(1, 0) = 2; distance(0, 1) = 1; setResult(2, 0); distance(2, 1) = 2");
    }

    /** Promise 26: "Returns the number of components". */
    private static void numberOfComponents26() {
        Told.due("26 the number", Told.of(TWO_CYCLES) + "; components() = 2; setResult(2, 1); components() = 4;"
            + " setResult(5, 4); components() = 6; setResult(0, 2); components() = 6");
    }

    /** Promise 27: "Returns the component of a player": "Returns the number of the component". */
    private static void numberOfTheComponent27() {
        Told.due("27 the number of the component", Told.of(TWO_CYCLES) + places("componentOf(", "000111")
            + "; exchange(0, 4)" + places("componentOf(", "100101"));
    }

    /** Promise 29: "Returns a player of the least spanning path": "Returns the player". */
    private static void playerOfThePath29() {
        Told.due("29 the player", Told.of("3,03,013,4,012") + places("pathAt(", "03421") + "; spanningPaths() = 9");
    }

    /** Promise 30: "Returns a player of the least cycle": "Returns the player at this place". */
    private static void playerOfTheCycle30() {
        Told.due("30 the player at this place", Told.of("3,03,013,4,012") + places("cycleAt(0, 3, ", "034")
            + places("cycleAt(1, 4, ", "1034") + places("cycleAt(2, 4, ", "2034") + places("cycleAt(4, 5, ", "42103")
            + "; cycleAt(1, 3, 2) = 4; cycleAt(1, 3, 1) = 3");
    }

    /** Promise 31: "Counts the lengths for which there is a cycle through a player": not the cycles. */
    private static void countsTheLengths31() {
        Told.due("31 the lengths", Told.of(Told.circle(5)) + "; cycleLengths(0) = 3; cycleLengths(4) = 3");
        Told.due("31 through this player", Told.of("1234,234,3,4,2") + "; cycleLengths(0) = 0; cycleLengths(1) = 0;"
            + " cycleLengths(2) = 1; cycleLengths(3) = 1; cycleLengths(4) = 1; setResult(4, 1); cycleLengths(1) = 2;"
            + " cycleLengths(4) = 2; cycleLengths(0) = 0");
    }

    // ---- orders and winners

    /** Promise 33: "Returns a player of the best order": "Returns the player". */
    private static void playerOfTheOrder33() {
        Told.due("33 the player", Told.of("2,0,1") + "; setWeight(0, 1, 2)" + places("orderAt(", "102")
            + "; setWeight(1, 2, 3)" + places("orderAt(", "210") + "; leastCost() = 1");
    }

    /** Promise 34: "Returns the winners by a rule": "Returns the set of the winners, as a bit mask". */
    private static void setOfTheWinners34() {
        Told.due("34 the set", Told.of(TWO_CYCLES) + "; winners(0) = 7; winners(1) = 7; winners(2) = 7; winners(3) = 7;"
            + " winners(4) = 7; exchange(0, 5); winners(0) = 38; winners(1) = 38; winners(2) = 38; winners(3) = 38;"
            + " winners(4) = 38");
    }

    /** Promise 35: "Returns the number of players who are winners by all five rules": each rule takes one away. */
    private static void winnersByAllFiveRules35() {
        Told.due("35 by all but the chains", Told.of(NO_CHAIN) + "; setWeight(0, 1, 100); setWeight(0, 2, 100);"
            + " setWeight(0, 3, 100); setWeight(0, 4, 100); setWeight(0, 5, 100); setWeight(0, 6, 100);"
            + " setWeight(1, 7, 100); setWeight(2, 8, 100); setWeight(3, 8, 100); setWeight(4, 9, 100);"
            + " setWeight(5, 9, 100); setWeight(6, 9, 100); winners(0) = 1023; winners(1) = 1013; winners(2) = 897;"
            + " winners(3) = 1012; winners(4) = 1; undisputed() = 0");
        Told.due("35 by all but the scores", "setResult(3, 0); setWeight(0, 3, 9); setWeight(0, 1, 9);"
            + " setWeight(0, 2, 9); winners(0) = 15; winners(1) = 11; winners(2) = 3; winners(3) = 11;"
            + " winners(4) = 8; undisputed() = 0");
        Told.due("35 by all but the order", "setResult(3, 0); winners(4) = 1; winners(2) = 3; winners(3) = 11;"
            + " undisputed() = 1; setWeight(0, 3, 2); winners(4) = 11; undisputed() = 2; setWeight(0, 3, 3);"
            + " winners(4) = 10; undisputed() = 1");
    }

    // ---- the stored tournament

    /** Promise 36: "Stores the present tournament": its number of players, results and weights; it stays present. */
    private static void storesThePresentOne36() {
        Told.due("36 all of it", weighed() + "setResult(5, 0); store() = 6" + dueAll(initialBut(SIX, "05"))
            + "; difference() = 0; reset(2); recall() = 6" + dueAll(initialBut(SIX, "05")));
    }

    /** Promise 37: "Counts the pairs of players whose results differ in both tournaments": "the number of pairs". */
    private static void countsThePairs37() {
        Told.due("37 the pairs", "reset(6); setResult(5, 0); store(); setResult(4, 0); difference() = 1;"
            + " setResult(0, 5); difference() = 2; reversePlayer(2); difference() = 7; reversePlayer(2);"
            + " difference() = 2; exchange(1, 3); difference() = 5; recall(); difference() = 0");
    }

    /** Promise 38: "Tells whether both tournaments are equal but for the numbers of the players": "Returns 1 or 0". */
    private static void tellsWhetherEqual38() {
        Told.due("38 equal but for the numbers", Told.of(NO_CHAIN) + "; store(); exchange(0, 7); exchange(2, 9);"
            + " exchange(4, 1); difference() = 17; isLikeStored() = 1; setWeight(0, 1, 9); isLikeStored() = 1;"
            + " reversePlayer(3); isLikeStored() = 0; reversePlayer(3); isLikeStored() = 1; reversePath(8, 0);"
            + " isLikeStored() = 0");
    }

    /** Promise 39: "Finds a triangle whose reversal makes the tournament more like the stored one". */
    private static void moreLikeTheStoredOne39() {
        Told.due("39 more like it each time", "reset(6); setResult(5, 0); store(); '1>0;2>1;4>3;5>4;' enter() = 4;"
            + " difference() = 4; towardsStored() = 12; reverseTriangle(0, 1, 2); difference() = 3;"
            + " towardsStored() = 345; reverseTriangle(3, 4, 5); difference() = 2; towardsStored() = -4");
    }

    /** Promise 39: "one in which at least two of the three results differ": the least such one, not the best one. */
    private static void theLeastNotTheBest39() {
        Told.due("39 two before three", "reset(6); setResult(5, 3); store(); reverseTriangle(3, 4, 5);"
            + " towardsStored() = 345; setResult(1, 0); setResult(2, 1); towardsStored() = 12;"
            + " reverseTriangle(0, 1, 2); towardsStored() = 345");
    }
}
