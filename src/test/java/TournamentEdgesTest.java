/**
 * The boundary cases that the document names under "Tournament" and in the promises 1 to 8 and 19 to 23: for each
 * such sentence a test of its own, with the sentence in the remark before it.
 */
public final class TournamentEdgesTest {
    public static void main(String[] args) {
        players();
        results();
        triangles();
        paths();
        wholePlayers();
        questions();
        Check.end();
    }

    private static void players() {
        players2To10Initially4();
        numberedFrom0();
        initiallyLowerBeatsHigher();
        newObject1();
        reset2ReturnsPreviousNumber();
        reset2AllAsInitially();
    }

    private static void results() {
        setResult3Ranges();
        setResult3BothTheSame();
        setResult3Returns();
        setWeight4From1To100();
        setWeight4Players();
        setWeight4BothTheSame();
        weightsInitially1();
        weightsOfAllPairs();
    }

    private static void triangles() {
        reverseTriangle5Ranges();
        reverseTriangle5TwoTheSame();
        reverseTriangle5NoCycle();
        reverseTriangle5TwoPlayers();
        reverseTriangle5TenPlayers();
        reverseTriangle5InEachDirection();
    }

    private static void paths() {
        reversePath6Ranges();
        reversePath6BothTheSame();
        reversePath6NoPath();
        reversePath6Lengths();
        reversePath6LeastOfShortest();
        reversePath6ShortestNotLeast();
    }

    private static void wholePlayers() {
        reversePlayer7();
        reversePlayer7Ends();
        exchange8Ranges();
        exchange8PossiblyTheSame();
        exchange8Ends();
    }

    private static void questions() {
        players19();
        beats20();
        beats20BothTheSame();
        weight21();
        weight21BothTheSame();
        score22();
        scoreAt23();
        scoreAt23Ascending();
    }

    // ---- players

    /** Tournament: "There are n players (2 to 10, initially 4)". Promise 2: "players: 2 to 10". */
    private static void players2To10Initially4() {
        Told.due("initially 4 players", "players() = 4");
        Told.range("2 players", "players()", "reset(?)", 2, 10);
        Told.due("2 to 10 players", "reset(1) = -1; players() = 4; reset(2) = 4; players() = 2; reset(10) = 2;"
            + " players() = 10; reset(11) = -1; players() = 10; reset(MIN) = -1; reset(MAX) = -1; reset(0) = -1;"
            + " reset(-2) = -1; reset(-10) = -1; players() = 10; undo() = 1; players() = 2; undo() = 0;"
            + " players() = 4; undo() = -2");
    }

    /** Tournament: "n players ..., numbered from 0". */
    private static void numberedFrom0() {
        for (int n = 2; n <= 10; n++) {
            Told.due("numbered from 0", "reset(" + n + "); score(-1) = -1; score(0) = " + (n - 1)
                + "; score(" + (n - 1) + ") = 0; score(" + n + ") = -1; score(MIN) = -1; score(MAX) = -1");
        }
    }

    /** Tournament: "Of each two players one beats the other one; initially each player beats all ... higher numbers". */
    private static void initiallyLowerBeatsHigher() {
        Told.due("a new object", "all = 123,23,3,-");
        for (int n = 2; n <= 10; n++) {
            Told.due("initially", "reset(" + n + "); all = " + Told.initial(n));
            Told.due("initially again", Told.of(Told.ladder(10)) + "; reset(" + n + "); all = " + Told.initial(n));
        }
    }

    /** Promise 1: "Creates the initial tournament of 4 players, which is also the stored one". */
    private static void newObject1() {
        Told.due("1 all is empty", "players() = 4; all = 123,23,3,-; ones; undo() = -2; checkSequence() = -2;"
            + " construct() = -2; clearSequence() = 0; fault() = -4; clearText() = 0");
        Told.due("1 also stored", "difference() = 0; isLikeStored() = 1; towardsStored() = -4; setResult(3, 0) = 0;"
            + " setWeight(1, 2, 100) = 1; difference() = 1; recall() = 4; all = 123,23,3,-; ones");
        Told.due("1 stored with 4 players", "reset(10) = 4; difference() = -2; recall() = 4; all = 123,23,3,-; ones");
    }

    /** Promise 2: "Returns the previous number". */
    private static void reset2ReturnsPreviousNumber() {
        Told.due("2 previous number", "reset(4) = 4; reset(2) = 4; reset(2) = 2; reset(3) = 2; reset(9) = 3;"
            + " reset(10) = 9; reset(10) = 10; reset(1) = -1; reset(11) = -1; reset(2) = 10");
        Told.due("2 after construct", "[1 0] construct() = 2; reset(5) = 2; recall() = 4; reset(6) = 4");
    }

    /** Promise 2: "Starts anew with a number of players; all results and weights are as initially". */
    private static void reset2AllAsInitially() {
        for (int n = 2; n <= 10; n++) {
            Told.due("2 as initially", "reset(" + n + "); reversePlayer(0); setWeight(0, 1, 100); setWeight("
                + (n - 1) + ", 0, 77); reset(" + n + ") = " + n + "; all = " + Told.initial(n) + "; ones");
        }
        Told.due("2 from few to many", "reset(10); reversePlayer(9); setWeight(8, 9, 100); reset(2); reset(10) = 2;"
            + " all = " + Told.initial(10) + "; ones");
    }

    // ---- results and weights

    /** Promise 3: "winner: number of a player", "loser: number of another player", "no such player". */
    private static void setResult3Ranges() {
        Told.range("3 winner of 4", "players()", "setResult(?, 1)", 0, 3);
        Told.range("3 loser of 4", "players()", "setResult(1, ?)", 0, 3);
        Told.range("3 winner of 10", "reset(10)", "setResult(?, 5)", 0, 9);
        Told.range("3 loser of 10", "reset(10)", "setResult(5, ?)", 0, 9);
        Told.range("3 winner of 2", "reset(2)", "setResult(?, 1)", 0, 0);
        Told.range("3 loser of 2", "reset(2)", "setResult(0, ?)", 1, 1);
        Told.due("3 no such player changes nothing", "reset(2); setResult(2, 0) = -1; setResult(1, -1) = -1;"
            + " setResult(MIN, MAX) = -1; setResult(MAX, MIN) = -1; setResult(MIN, MIN) = -1; all = 1,-; undo() = 0");
    }

    /** Promise 3: "loser: number of another player", "INVALID_ARGUMENT if ... both are the same". */
    private static void setResult3BothTheSame() {
        for (int n = 2; n <= 10; n++) {
            Told.due("3 both the same", "reset(" + n + "); setResult(0, 0) = -1; setResult(1, 1) = -1; setResult("
                + (n - 1) + ", " + (n - 1) + ") = -1; undo() = 0; undo() = -2");
        }
    }

    /** Promise 3: "Returns 1 if the winner had beaten the loser before, else 0". */
    private static void setResult3Returns() {
        Told.due("3 returns, two players", "reset(2); setResult(0, 1) = 1; all = 1,-; setResult(1, 0) = 0; all = -,0;"
            + " setResult(1, 0) = 1; all = -,0; setResult(0, 1) = 0; all = 1,-");
        Told.due("3 returns, ten players", "reset(10); setResult(0, 9) = 1; setResult(9, 0) = 0; setResult(9, 0) = 1;"
            + " setResult(9, 8) = 0; all = 12345678,23456789,3456789,456789,56789,6789,789,89,-,08");
    }

    /** Tournament: "a weight (1 to 100". Promise 4: "weight: 1 to 100", "an argument is out of range". */
    private static void setWeight4From1To100() {
        Told.range("4 weight", "players()", "setWeight(0, 1, ?)", 1, 100);
        Told.range("4 weight of the last pair", "reset(10)", "setWeight(9, 8, ?)", 1, 100);
        Told.due("4 just outside", "setWeight(0, 1, 0) = -1; weight(0, 1) = 1; setWeight(0, 1, 101) = -1;"
            + " weight(0, 1) = 1; setWeight(0, 1, 100) = 1; weight(0, 1) = 100; setWeight(0, 1, 101) = -1;"
            + " setWeight(0, 1, 0) = -1; setWeight(0, 1, -1) = -1; setWeight(0, 1, MIN) = -1;"
            + " setWeight(0, 1, MAX) = -1; weight(0, 1) = 100; weight(1, 0) = 100; setWeight(1, 0, 1) = 100;"
            + " weight(0, 1) = 1; weight(1, 0) = 1; undo() = 1; weight(1, 0) = 100; undo() = 0; undo() = -2");
    }

    /** Promise 4: "a: number of a player", "b: number of another player". */
    private static void setWeight4Players() {
        Told.range("4 a of 4", "players()", "setWeight(?, 1, 5)", 0, 3);
        Told.range("4 b of 4", "players()", "setWeight(1, ?, 5)", 0, 3);
        Told.range("4 a of 10", "reset(10)", "setWeight(?, 5, 100)", 0, 9);
        Told.range("4 b of 10", "reset(10)", "setWeight(5, ?, 100)", 0, 9);
        Told.range("4 a of 2", "reset(2)", "setWeight(?, 1, 1)", 0, 0);
        Told.range("4 b of 2", "reset(2)", "setWeight(0, ?, 1)", 1, 1);
        Told.due("4 more than one out of range", "setWeight(MIN, MAX, MIN) = -1; setWeight(4, 4, 0) = -1; ones");
    }

    /** Promise 4: "b: number of another player", "INVALID_ARGUMENT if ... both players are the same". */
    private static void setWeight4BothTheSame() {
        for (int n = 2; n <= 10; n++) {
            Told.due("4 both the same", "reset(" + n + "); setWeight(0, 0, 1) = -1; setWeight(1, 1, 100) = -1;"
                + " setWeight(" + (n - 1) + ", " + (n - 1) + ", 2) = -1; ones; undo() = 0; undo() = -2");
        }
    }

    /** Tournament: "Each pair of players has a weight (..., initially 1)". */
    private static void weightsInitially1() {
        Told.due("weights of a new object", "ones");
        for (int n = 2; n <= 10; n++) {
            Told.due("weights initially", "reset(" + n + "); ones");
        }
    }

    /** Promise 4: "Sets the weight of a pair", "Returns the previous weight": of this pair alone, in both directions. */
    private static void weightsOfAllPairs() {
        StringBuilder run = new StringBuilder("reset(10)");
        for (int a = 0; a < 10; a++) {
            for (int b = a + 1; b < 10; b++) {
                run.append("; setWeight(" + a + ", " + b + ", " + (10 * a + b) + ") = 1");
            }
        }
        for (int a = 0; a < 10; a++) {
            for (int b = 0; b < 10; b++) {
                int weight = a == b ? -1 : 10 * Math.min(a, b) + Math.max(a, b);
                run.append("; weight(" + a + ", " + b + ") = " + weight);
            }
        }
        Told.due("4 all pairs of ten", run + "; all = " + Told.initial(10));
    }

    // ---- triangles

    /** Promise 5: "number of a player", "another player", "a third player", "no such player". */
    private static void reverseTriangle5Ranges() {
        String four = "setResult(3, 0)";
        Told.range("5 a of 4", four, "reverseTriangle(?, 1, 3)", 0, 2);
        Told.range("5 b of 4", four, "reverseTriangle(0, ?, 3)", 1, 2);
        Told.range("5 c of 4", four, "reverseTriangle(0, 1, ?)", 2, 3);
        String ten = Told.of(Told.ladder(10));
        Told.range("5 a of 10", ten, "reverseTriangle(?, 8, 7)", 0, 9);
        Told.range("5 b of 10", ten, "reverseTriangle(7, ?, 9)", 0, 8);
        Told.range("5 c of 10", ten, "reverseTriangle(0, 1, ?)", 2, 9);
        Told.due("5 no such player changes nothing", four + "; reverseTriangle(0, 1, 4) = -1;"
            + " reverseTriangle(-1, 1, 3) = -1; reverseTriangle(MIN, MAX, 3) = -1; all = 12,23,3,0; undo() = 0");
    }

    /** Promise 5: "INVALID_ARGUMENT if ... two are the same", which goes before NOT_POSSIBLE. */
    private static void reverseTriangle5TwoTheSame() {
        for (String before : new String[] {"players() = 4", "setResult(3, 0)", "reset(2)", "reset(10)"}) {
            Told.due("5 two the same", before + "; reverseTriangle(0, 0, 1) = -1; reverseTriangle(0, 1, 0) = -1;"
                + " reverseTriangle(1, 0, 0) = -1; reverseTriangle(1, 1, 1) = -1; reverseTriangle(0, 1, 1) = -1;"
                + " reverseTriangle(0, 0, MAX) = -1; reverseTriangle(MIN, 0, 0) = -1");
        }
        Told.due("5 two the same, 3 and 9", "reset(10); reverseTriangle(3, 9, 9) = -1; reverseTriangle(9, 9, 3) = -1;"
            + " reverseTriangle(9, 3, 9) = -1; undo() = 0");
    }

    /** Promise 5: "NOT_POSSIBLE if they form no cycle": of 8 tournaments of three players, two are cycles. */
    private static void reverseTriangle5NoCycle() {
        String[] sequences = {"0, 1, 2", "0, 2, 1", "1, 0, 2", "1, 2, 0", "2, 0, 1", "2, 1, 0"};
        for (int code = 0; code < 8; code++) {
            String results = "setResult(" + (code % 2 == 0 ? "0, 1" : "1, 0") + "); setResult("
                + (code / 2 % 2 == 0 ? "1, 2" : "2, 1") + "); setResult(" + (code / 4 == 0 ? "2, 0" : "0, 2") + ")";
            int due = code == 0 || code == 7 ? 1 : -2;
            for (String sequence : sequences) {
                String call = "reverseTriangle(" + sequence + ") = " + due;
                Told.due("5 no cycle", "reset(3); " + results + "; " + call + "; undo() = " + (due == 1 ? 4 : 3));
                Told.due("5 no cycle, a player more", "reset(4); setResult(3, 0); setResult(3, 1); setResult(3, 2); "
                    + results + "; " + call + "; undo() = " + (due == 1 ? 7 : 6));
            }
        }
        Told.due("5 no cycle changes nothing", "reverseTriangle(1, 2, 3) = -2; all = 123,23,3,-; undo() = -2");
    }

    /** Promise 5 with "2 to 10" players: of two players there is no third one. */
    private static void reverseTriangle5TwoPlayers() {
        Told.due("5 two players", "reset(2); reverseTriangle(0, 1, 2) = -1; reverseTriangle(1, 0, -1) = -1;"
            + " reverseTriangle(0, 1, 0) = -1; reverseTriangle(2, 3, 4) = -1; all = 1,-; undo() = 0");
        Told.due("5 three players", "reset(3); reverseTriangle(0, 1, 2) = -2; setResult(2, 0) = 0;"
            + " reverseTriangle(0, 1, 3) = -1; reverseTriangle(0, 1, 2) = 1; all = 2,0,1");
    }

    /** Promise 5: "Returns the number of triangles of the tournament then", at most 40 of ten players. */
    private static void reverseTriangle5TenPlayers() {
        Told.due("5 the last three of ten", "reset(10); reverseTriangle(7, 8, 9) = -2; setResult(9, 7);"
            + " reverseTriangle(7, 8, 10) = -1; reverseTriangle(7, 8, 9) = 1; beats(8, 7) = 1; beats(9, 8) = 1;"
            + " beats(7, 9) = 1; beats(6, 9) = 1; undo() = 2; beats(7, 8) = 1; beats(9, 7) = 1");
        Told.due("5 all of ten", "[4 4 4 4 4 5 5 5 5 5] construct() = 10; triangles() = 40; setWeight(0, 1, 3);"
            + " reverseTriangle(0, 1, 2); reverseTriangle(0, 1, 9); triangles(); weight(0, 1) = 3");
        Told.due("5 first and last of the ladder", Told.of(Told.ladder(10)) + "; triangles() = 8;"
            + " reverseTriangle(0, 1, 9) = -2; reverseTriangle(0, 1, 2) = 8; reverseTriangle(0, 1, 2) = 8");
    }

    /** Tournament: "three players that form a cycle (in one of the two directions)". */
    private static void reverseTriangle5InEachDirection() {
        Told.due("5 one direction, then the other", "reset(3); setResult(2, 0); triangles() = 1; all = 1,2,0;"
            + " reverseTriangle(0, 1, 2) = 1; all = 2,0,1; triangles() = 1; reverseTriangle(0, 1, 2) = 1;"
            + " all = 1,2,0; reverseTriangle(2, 1, 0) = 1; all = 2,0,1; reverseTriangle(1, 0, 2) = 1; all = 1,2,0");
    }

    // ---- paths

    /** Promise 6: "from: number of a player", "to: number of another player", "no such player". */
    private static void reversePath6Ranges() {
        Told.range("6 from of 4", "players()", "reversePath(?, 3)", 0, 2);
        Told.range("6 to of 4", "players()", "reversePath(0, ?)", 1, 3);
        Told.range("6 from of 10", "reset(10)", "reversePath(?, 5)", 0, 9);
        Told.range("6 to of 10", "reset(10)", "reversePath(5, ?)", 0, 9);
        Told.due("6 no such player changes nothing", "reversePath(0, 4) = -1; reversePath(4, 0) = -1;"
            + " reversePath(-1, 3) = -1; reversePath(MIN, MAX) = -1; all = 123,23,3,-; undo() = -2");
    }

    /** Promise 6: "INVALID_ARGUMENT if ... both are the same", which goes before NOT_POSSIBLE. */
    private static void reversePath6BothTheSame() {
        for (int n = 2; n <= 10; n++) {
            Told.due("6 both the same", "reset(" + n + "); reversePath(0, 0) = -1; reversePath(1, 1) = -1;"
                + " reversePath(" + (n - 1) + ", " + (n - 1) + ") = -1; undo() = 0");
        }
        Told.due("6 both the same in a cycle", Told.of(Told.circle(3)) + "; reversePath(1, 1) = -1; all = 1,2,0");
    }

    /** Promise 6: "NOT_POSSIBLE if there is no path". */
    private static void reversePath6NoPath() {
        Told.due("6 no path of 2", "reset(2); reversePath(1, 0) = -2; all = 1,-; undo() = 0");
        Told.due("6 no path of 4", "reversePath(3, 0) = -2; reversePath(3, 2) = -2; reversePath(1, 0) = -2;"
            + " all = 123,23,3,-; undo() = -2");
        Told.due("6 no path of 10", "reset(10); reversePath(9, 0) = -2; reversePath(9, 8) = -2; undo() = 0");
        Told.due("6 none between components", Told.of("135,2345,035,45,025,-") + "; reversePath(5, 0) = -2;"
            + " reversePath(5, 4) = -2; reversePath(0, 5) = 1; reversePath(0, 5) = 2");
    }

    /** Tournament: "its length is the number of its players minus 1": 1 to n - 1. Promise 6: "Returns the length". */
    private static void reversePath6Lengths() {
        Told.due("6 length 1 of two players", "reset(2); reversePath(0, 1) = 1; all = -,0; reversePath(0, 1) = -2;"
            + " reversePath(1, 0) = 1; all = 1,-");
        for (int n = 3; n <= 10; n++) {
            Told.due("6 length n - 1", Told.of(Told.ladder(n)) + "; reversePath(0, " + (n - 1) + ") = " + (n - 1)
                + "; beats(1, 0) = 1; beats(" + (n - 1) + ", " + (n - 2) + ") = 1; reversePath(0, " + (n - 1)
                + ") = -2; reversePath(" + (n - 1) + ", 0) = 1");
        }
        Told.due("6 ten players, all along the path", Told.of(Told.ladder(10)) + "; reversePath(0, 9) = 9; all ="
            + " -,0,01,012,0123,01234,012345,0123456,01234567,012345678");
    }

    /** Promise 6: "the least shortest path". Tournament: "the lesser one is the one with the lower number there". */
    private static void reversePath6LeastOfShortest() {
        Told.due("6 the first step decides", "setResult(3, 0); reversePath(0, 3) = 2; all = 2,02,3,01");
        Told.due("6 a later step decides", Told.of("1,23,034,04,01") + "; reversePath(0, 4) = 3;"
            + " all = -,03,013,04,012");
        Told.due("6 a later step decides, the lower one beaten", Told.of("1,23,04,024,01") + "; reversePath(0, 4) = 3;"
            + " all = -,03,01,024,012");
        Told.due("6 the last player has the lowest number", Told.of("13,234,04,24,0") + "; reversePath(1, 0) = 2;"
            + " all = 123,34,14,24,0");
    }

    /** Promise 6: "the least shortest path": a longer one is not taken, though it is less. */
    private static void reversePath6ShortestNotLeast() {
        Told.due("6 one step", "reversePath(0, 3) = 1; all = 12,23,3,0");
        Told.due("6 one step, then two", "reset(10); reversePath(0, 9) = 1; reversePath(0, 9) = 2; beats(1, 0) = 1;"
            + " beats(9, 1) = 1; beats(9, 0) = 1; beats(0, 2) = 1; beats(2, 9) = 1");
        Told.due("6 two steps by a higher player", Told.of("14,2,035,015,1235,01") + "; distance(0, 5) = 2;"
            + " reversePath(0, 5) = 2; all = 1,2,035,015,0123,014");
    }

    // ---- whole players

    /** Promise 7: "player: number of a player", "INVALID_ARGUMENT if there is no such player". */
    private static void reversePlayer7() {
        Told.range("7 player of 2", "reset(2)", "reversePlayer(?)", 0, 1);
        Told.range("7 player of 4", "players()", "reversePlayer(?)", 0, 3);
        Told.range("7 player of 10", "reset(10)", "reversePlayer(?)", 0, 9);
        Told.due("7 no such player changes nothing", "reversePlayer(4) = -1; reversePlayer(-1) = -1;"
            + " reversePlayer(MIN) = -1; reversePlayer(MAX) = -1; all = 123,23,3,-; undo() = -2");
    }

    /** Promise 7: "against all others", "Returns the new score of the player", from 0 to n - 1. */
    private static void reversePlayer7Ends() {
        Told.due("7 two players", "reset(2); reversePlayer(0) = 0; all = -,0; reversePlayer(1) = 0; all = 1,-;"
            + " reversePlayer(1) = 1; all = -,0");
        Told.due("7 ten players", "reset(10); reversePlayer(9) = 9; score(9) = 9; score(0) = 8; reversePlayer(9) = 0;"
            + " reversePlayer(0) = 0; score(9) = 1; reversePlayer(0) = 9; all = " + Told.initial(10) + "; ones");
        Told.due("7 one in the middle", "reset(10); reversePlayer(4) = 4; beats(4, 0) = 1; beats(4, 3) = 1;"
            + " beats(4, 5) = 0; beats(5, 4) = 1; beats(9, 4) = 1; beats(4, 4) = 0; reversePlayer(4) = 5");
    }

    /** Promise 8: "a: number of a player", "b: number of a player, possibly the same". */
    private static void exchange8Ranges() {
        Told.range("8 a of 2", "reset(2)", "exchange(?, 0)", 0, 1);
        Told.range("8 b of 2", "reset(2)", "exchange(1, ?)", 0, 1);
        Told.range("8 a of 4", "players()", "exchange(?, 2)", 0, 3);
        Told.range("8 b of 4", "players()", "exchange(2, ?)", 0, 3);
        Told.range("8 a of 10", "reset(10)", "exchange(?, 5)", 0, 9);
        Told.range("8 b of 10", "reset(10)", "exchange(5, ?)", 0, 9);
        Told.due("8 no such player, though the same", "exchange(4, 4) = -1; exchange(-1, -1) = -1;"
            + " exchange(MIN, MIN) = -1; exchange(MAX, MAX) = -1; exchange(0, 4) = -1; all = 123,23,3,-; undo() = -2");
    }

    /** Promise 8: "b: number of a player, possibly the same": nothing differs then, and it is a change. */
    private static void exchange8PossiblyTheSame() {
        for (int n = 2; n <= 10; n++) {
            Told.due("8 possibly the same", "reset(" + n + "); exchange(0, 0) = " + (n - 1) + "; exchange(" + (n - 1)
                + ", " + (n - 1) + ") = 0; exchange(1, 1) = " + (n - 2) + "; all = " + Told.initial(n)
                + "; ones; undo() = 3; all = " + Told.initial(n) + "; undo() = 2; undo() = 1; undo() = 0");
        }
    }

    /** Promise 8: "each gets the results and weights of the other one", "Returns the score of a then". */
    private static void exchange8Ends() {
        Told.due("8 two players", "reset(2); setWeight(0, 1, 100); exchange(0, 1) = 0; all = -,0; weight(0, 1) = 100;"
            + " exchange(0, 1) = 1; all = 1,-; exchange(1, 0) = 1; all = -,0; weight(1, 0) = 100");
        Told.due("8 first and last of ten", "reset(10); setWeight(0, 5, 50); setWeight(9, 5, 60); setWeight(0, 9, 70);"
            + " exchange(0, 9) = 0; score(9) = 9; score(0) = 0; score(1) = 8; weight(0, 5) = 60; weight(5, 9) = 50;"
            + " weight(9, 0) = 70; beats(9, 0) = 1; beats(1, 0) = 1; beats(9, 1) = 1; exchange(9, 0) = 0");
        Told.due("8 neighbours", "setWeight(1, 3, 8); exchange(1, 2) = 1; all = 123,3,13,-; weight(2, 3) = 8;"
            + " weight(1, 3) = 1; weight(0, 1) = 1");
    }

    // ---- questions

    /** Promise 19: "Returns the number of players", 2 to 10. */
    private static void players19() {
        for (int n = 2; n <= 10; n++) {
            Told.due("19 players", "players() = 4; reset(" + n + "); players() = " + n);
        }
        Told.due("19 after each change of the number", "[0 1] construct() = 2; players() = 2; reset(10); players() = 10;"
            + " recall() = 4; players() = 4; undo() = 2; players() = 10; undo() = 1; players() = 2; undo() = 0;"
            + " players() = 4");
    }

    /** Promise 20: "a: number of a player", "b: number of a player", "no such player". */
    private static void beats20() {
        Told.range("20 a of 2", "reset(2)", "beats(?, 0)", 0, 1);
        Told.range("20 b of 2", "reset(2)", "beats(0, ?)", 0, 1);
        Told.range("20 a of 4", "players()", "beats(?, 0)", 0, 3);
        Told.range("20 b of 4", "players()", "beats(3, ?)", 0, 3);
        Told.range("20 a of 10", "reset(10)", "beats(?, 9)", 0, 9);
        Told.range("20 b of 10", "reset(10)", "beats(9, ?)", 0, 9);
    }

    /** Promise 20: "else 0 (also if both are the same)", but INVALID_ARGUMENT if there is no such player. */
    private static void beats20BothTheSame() {
        Told.due("20 both the same", "beats(0, 0) = 0; beats(3, 3) = 0; beats(4, 4) = -1; beats(-1, -1) = -1;"
            + " beats(MIN, MIN) = -1; beats(MAX, MAX) = -1; reset(10); beats(0, 0) = 0; beats(9, 9) = 0;"
            + " beats(10, 10) = -1; reset(2); beats(1, 1) = 0; beats(2, 2) = -1");
    }

    /** Promise 21: "a: number of a player", "b: number of another player", "no such player". */
    private static void weight21() {
        Told.range("21 a of 2", "reset(2)", "weight(?, 0)", 1, 1);
        Told.range("21 b of 2", "reset(2)", "weight(1, ?)", 0, 0);
        Told.range("21 a of 4", "players()", "weight(?, 1)", 0, 3);
        Told.range("21 b of 4", "players()", "weight(2, ?)", 0, 3);
        Told.range("21 a of 10", "reset(10)", "weight(?, 5)", 0, 9);
        Told.range("21 b of 10", "reset(10)", "weight(4, ?)", 0, 9);
    }

    /** Promise 21: "INVALID_ARGUMENT if ... both are the same". */
    private static void weight21BothTheSame() {
        for (int n = 2; n <= 10; n++) {
            Told.due("21 both the same", "reset(" + n + "); weight(0, 0) = -1; weight(1, 1) = -1; weight("
                + (n - 1) + ", " + (n - 1) + ") = -1; weight(0, " + (n - 1) + ") = 1");
        }
    }

    /** Promise 22: "player: number of a player", "no such player"; a score is 0 to n - 1. */
    private static void score22() {
        Told.range("22 player of 2", "reset(2)", "score(?)", 0, 1);
        Told.range("22 player of 4", "players()", "score(?)", 0, 3);
        Told.range("22 player of 10", "reset(10)", "score(?)", 0, 9);
        Told.due("22 least and greatest", "reset(2); score(0) = 1; score(1) = 0; reset(10); score(0) = 9; score(9) = 0");
    }

    /** Promise 23: "place: 0 to n - 1", "INVALID_ARGUMENT if place is out of range". */
    private static void scoreAt23() {
        Told.range("23 place of 2", "reset(2)", "scoreAt(?)", 0, 1);
        Told.range("23 place of 4", "players()", "scoreAt(?)", 0, 3);
        Told.range("23 place of 10", "reset(10)", "scoreAt(?)", 0, 9);
    }

    /** Tournament: "The score sequence consists of all scores in ascending order": also those that are equal. */
    private static void scoreAt23Ascending() {
        Told.due("23 least and greatest", "reset(2); scoreAt(0) = 0; scoreAt(1) = 1; reset(10); scoreAt(0) = 0;"
            + " scoreAt(9) = 9; scoreAt(4) = 4");
        Told.due("23 equal scores", "setResult(3, 0); scoreAt(0) = 1; scoreAt(1) = 1; scoreAt(2) = 2; scoreAt(3) = 2");
        Told.due("23 all equal", Told.of(Told.circle(9)) + "; scoreAt(0) = 4; scoreAt(4) = 4; scoreAt(8) = 4;"
            + " scoreAt(9) = -1");
        Told.due("23 one greatest and equal ones", "reset(10); reversePlayer(9); setResult(8, 0); scoreAt(9) = 9;"
            + " scoreAt(0) = 1; scoreAt(1) = 1; scoreAt(2) = 2; scoreAt(8) = 7; scoreAt(7) = 7");
    }
}
