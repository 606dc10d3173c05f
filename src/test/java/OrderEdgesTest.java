/**
 * The boundary cases that the document names under "Orders", "Winners" and in the promises 32 to 35: for each such
 * sentence a test of its own, with the sentence in the remark before it.
 */
public final class OrderEdgesTest {
    /** Each two of the five rules have other winners here. */
    private static final String ALL_DIFFER = "reset(7); '2>0;3>0;6>0;3>1;4>1;6>1;5>3;' enter() = 7;"
        + " setWeight(1, 2, 4); setWeight(4, 2, 4)";

    public static void main(String[] args) {
        costs();
        places();
        rules();
        ties();
        undisputed();
        Check.end();
    }

    private static void costs() {
        leastCost32Nothing();
        leastCost32Sum();
        leastCost32Greatest();
        leastCost32AfterEachChange();
    }

    private static void places() {
        orderAt33Ranges();
        orderAt33OfSeveralTheLeast();
        orderAt33TwoAndTen();
    }

    private static void rules() {
        winners34Rule();
        topPlayersOfComponent0();
        kingsByLength1Or2();
        scoresGreatest();
        chainsOfAtLeastOnePlayer();
        chainsThatCanBeExtended();
        orderFirstOnes();
    }

    private static void ties() {
        tieOfOrders();
        twoPlayers34();
        tenPlayers34();
    }

    private static void undisputed() {
        undisputed35Least();
        undisputed35Most();
    }

    // ---- costs

    /** Orders: "the sum of the weights of all pairs whose later player ... beats the earlier one": none of them. */
    private static void leastCost32Nothing() {
        for (int n = 2; n <= 10; n++) {
            Told.due("32 nothing", "reset(" + n + "); leastCost() = 0; setWeight(0, 1, 100); setWeight(0, " + (n - 1)
                + ", 100); leastCost() = 0; exchange(0, " + (n - 1) + "); leastCost() = 0; reversePlayer(1);"
                + " leastCost()");
        }
        Told.due("32 two players never cost", "reset(2); leastCost() = 0; setResult(1, 0); leastCost() = 0;"
            + " setWeight(0, 1, 100); leastCost() = 0; setResult(0, 1); leastCost() = 0");
    }

    /** Orders: "Its cost is the sum of the weights", "The best order is the one with the least cost". */
    private static void leastCost32Sum() {
        Told.due("32 the least of three", Told.of(Told.circle(3)) + "; leastCost() = 1; setWeight(0, 2, 100);"
            + " leastCost() = 1; setWeight(0, 1, 100); leastCost() = 1; setWeight(1, 2, 100); leastCost() = 100;"
            + " setWeight(0, 1, 99); leastCost() = 99");
        Told.due("32 one pair or two", "setResult(3, 0); leastCost() = 1; setWeight(0, 3, 2); leastCost() = 2;"
            + " setWeight(0, 3, 3); leastCost() = 2; setWeight(0, 3, 100); leastCost() = 2; setWeight(0, 1, 2);"
            + " leastCost() = 2; setWeight(2, 3, 2); leastCost() = 3");
    }

    /** Orders and "a weight (1 to 100": the greatest costs of nine and of ten players. */
    private static void leastCost32Greatest() {
        Told.due("32 nine", Told.of(Told.circle(9)) + weights(9, 100) + "; leastCost() = 1000; orderAt(0) = 0;"
            + " orderAt(8) = 8; winners(4) = 511");
        Told.due("32 ten", Told.of(Told.ladder(10)) + weights(10, 100) + "; leastCost() = 400; winners(4) = 256");
    }

    private static String weights(int n, int weight) {
        StringBuilder run = new StringBuilder();
        for (int a = 0; a < n; a++) {
            for (int b = a + 1; b < n; b++) {
                run.append("; setWeight(" + a + ", " + b + ", " + weight + ")");
            }
        }
        return run.toString();
    }

    /** Promise 32, "Returns the cost of the best order": of the present tournament, after each of the changes. */
    private static void leastCost32AfterEachChange() {
        Told.due("32 after each change", "leastCost() = 0; setResult(3, 0); leastCost() = 1; setWeight(0, 3, 2);"
            + " leastCost() = 2; setWeight(1, 2, 5); leastCost() = 2; reverseTriangle(0, 1, 3); leastCost() = 1;"
            + " orderAt(0) = 1; reversePath(0, 1); leastCost(); orderAt(0); reversePlayer(0); leastCost();"
            + " exchange(0, 3); leastCost(); orderAt(0); undo(); leastCost(); orderAt(0); [1 1 1] construct();"
            + " leastCost() = 1; orderAt(0) = 0; '0>1;1>2;0>2;' enter(); leastCost() = 0; orderAt(0) = 0;"
            + " recall(); leastCost() = 0; orderAt(3) = 3; reset(10); leastCost() = 0; orderAt(9) = 9; undo();"
            + " orderAt(9) = -1; leastCost() = 0; undo(); undo(); leastCost() = 1");
        Told.due("32 after a question, a change and a recall", "setResult(3, 0); setWeight(0, 3, 9); leastCost() = 2;"
            + " setWeight(0, 1, 5); recall(); leastCost() = 0; orderAt(0) = 0; winners(4) = 1");
        Told.due("32 after a question, a change and an undo", "leastCost() = 0; setResult(3, 0); leastCost() = 1;"
            + " undo(); leastCost() = 0; setWeight(0, 1, 9); undo(); setResult(3, 0); leastCost() = 1; undo();"
            + " setResult(2, 0); leastCost() = 1; orderAt(1) = 1; reset(3); undo(); leastCost() = 1; reset(4);"
            + " leastCost() = 0");
    }

    // ---- places

    /** Promise 33: "place: 0 to n - 1", "INVALID_ARGUMENT if place is out of range". */
    private static void orderAt33Ranges() {
        Told.range("33 place of 2", "reset(2)", "orderAt(?)", 0, 1);
        Told.range("33 place of 4", "players()", "orderAt(?)", 0, 3);
        Told.range("33 place of 10", "reset(10)", "orderAt(?)", 0, 9);
        Told.range("33 place of 10 in a ladder", Told.of(Told.ladder(10)), "orderAt(?)", 0, 9);
    }

    /** Orders: "The best order is the one with the least cost, of several the least one". */
    private static void orderAt33OfSeveralTheLeast() {
        Told.due("33 of three equal ones", Told.of(Told.circle(3)) + "; orderAt(0) = 0; orderAt(1) = 1; orderAt(2) = 2;"
            + " setWeight(0, 2, 2); orderAt(0) = 1; orderAt(1) = 2; orderAt(2) = 0; setWeight(0, 1, 2); orderAt(0) = 2;"
            + " orderAt(1) = 0; orderAt(2) = 1; setWeight(1, 2, 2); orderAt(0) = 0; orderAt(2) = 2");
        Told.due("33 of equal ones the other way round", Told.of("2,0,1") + "; orderAt(0) = 0; orderAt(1) = 2;"
            + " orderAt(2) = 1; setWeight(0, 1, 2); orderAt(0) = 1; orderAt(1) = 0; orderAt(2) = 2");
        Told.due("33 one less decides", "setResult(3, 0); setWeight(0, 3, 2); orderAt(0) = 0; setWeight(0, 3, 3);"
            + " orderAt(0) = 1; orderAt(1) = 2; orderAt(2) = 3; orderAt(3) = 0; setWeight(0, 3, 1); orderAt(0) = 0");
        Told.due("33 a tie at a later place", Told.of("1234,2,3,1,123") + "; orderAt(0) = 0; orderAt(1) = 4;"
            + " orderAt(2) = 1; orderAt(3) = 2; orderAt(4) = 3; leastCost() = 1");
    }

    /** Promise 33: two players alone, and ten of them. */
    private static void orderAt33TwoAndTen() {
        Told.due("33 two players", "reset(2); orderAt(0) = 0; orderAt(1) = 1; orderAt(2) = -1; setResult(1, 0);"
            + " orderAt(0) = 1; orderAt(1) = 0");
        Told.due("33 ten players", "reset(10); orderAt(0) = 0; orderAt(9) = 9; exchange(0, 9); orderAt(0) = 9;"
            + " orderAt(9) = 0; orderAt(5) = 5; reversePlayer(0); orderAt(0) = 0; orderAt(1) = 9; orderAt(9) = 8;"
            + " orderAt(10) = -1");
    }

    // ---- rules

    /** Promise 34: "rule: TOP, KINGS, SCORES, CHAINS or ORDER", "INVALID_ARGUMENT if rule is out of range". */
    private static void winners34Rule() {
        Told.range("34 rule", "players()", "winners(?)", 0, 4);
        Told.range("34 rule for ten", Told.of(Told.ladder(10)), "winners(?)", 0, 4);
        Told.range("34 rule for two", "reset(2)", "winners(?)", 0, 4);
        Told.due("34 each rule by its number", ALL_DIFFER + "; winners(0) = 127; winners(1) = 31; winners(2) = 4;"
            + " winners(3) = 15; winners(4) = 10; winners(5) = -1; winners(-1) = -1");
    }

    /** Winners: "0 top: the players of component 0". */
    private static void topPlayersOfComponent0() {
        Told.due("top of one player", "reset(10); winners(0) = 1; setResult(9, 1); winners(0) = 1; reversePlayer(9)");
        Told.due("top of all", "reset(10); setResult(9, 0); winners(0) = 1023; setResult(0, 9); setResult(8, 0);"
            + " winners(0) = 511; setResult(0, 8); setResult(2, 0); winners(0) = 7");
        Told.due("top with high numbers", "reset(10); reversePlayer(9); winners(0) = 512; reset(2); setResult(1, 0);"
            + " winners(0) = 2");
    }

    /** Structure: "A king is a player from whom each other player is reached by a path of length 1 or 2". */
    private static void kingsByLength1Or2() {
        Told.due("kings by length 1", "winners(1) = 1; reset(10); winners(1) = 1; reversePlayer(9); winners(1) = 512");
        Told.due("kings by length 2", "setResult(3, 0); winners(1) = 11; distance(3, 2) = 2; distance(2, 1) = 3");
        Told.due("kings, all", Told.of(Told.circle(3)) + "; winners(1) = 7; reset(2); winners(1) = 1");
        Told.due("kings, not by length 3", Told.of(Told.ladder(10)) + "; winners(1) = 896; distance(6, 9) = 3;"
            + " distance(7, 9) = 2");
        Told.due("kings, all of nine", Told.of(Told.circle(9)) + "; winners(1) = 511");
    }

    /** Winners: "2 scores: the players with the greatest score": one, several or all. */
    private static void scoresGreatest() {
        Told.due("scores, one", "winners(2) = 1; reset(10); winners(2) = 1; reversePlayer(9); winners(2) = 512");
        Told.due("scores, two", "setResult(3, 0); winners(2) = 3; setResult(3, 1); winners(2) = 9;"
            + " setResult(3, 2); winners(2) = 8");
        Told.due("scores, all", Told.of(Told.circle(9)) + "; winners(2) = 511; reverseTriangle(0, 3, 6);"
            + " winners(2) = 511; setResult(1, 0); winners(2)");
        Told.due("scores, half of ten", "[4 5 4 5 4 5 4 5 4 5] construct(); winners(2) = 682");
    }

    /** Winners: "a chain is a sequence of at least one player, each of whom beats all later ones of it". */
    private static void chainsOfAtLeastOnePlayer() {
        Told.due("a chain of one player whom nobody beats", "reset(2); winners(3) = 1; setResult(1, 0);"
            + " winners(3) = 2; reset(10); winners(3) = 1; reversePlayer(9); winners(3) = 512");
        Told.due("chains of two players", Told.of(Told.circle(3)) + "; winners(3) = 7");
    }

    /** Winners: "a chain that cannot be extended at its beginning: ... if some player beats all its players". */
    private static void chainsThatCanBeExtended() {
        Told.due("chains", "setResult(3, 0); winners(3) = 11; setResult(2, 0); winners(3) = 7");
        Told.due("a king whose chains can all be extended", ALL_DIFFER + "; winners(1) = 31; winners(3) = 15");
        Told.due("chains of nine", Told.of(Told.circle(9)) + "; winners(3) = 511");
        Told.due("chains of a ladder", Told.of(Told.ladder(10)) + "; winners(3) = 896");
    }

    /** Winners: "4 order: each player who is the first one of some order with the least cost". */
    private static void orderFirstOnes() {
        Told.due("order, one", "winners(4) = 1; reset(10); winners(4) = 1; reversePlayer(9); winners(4) = 512");
        Told.due("order, all", Told.of(Told.circle(9)) + "; winners(4) = 511");
        Told.due("order, by weight", "setResult(3, 0); winners(4) = 1; setWeight(0, 3, 9); winners(4) = 10");
    }

    // ---- ties

    /** Winners 4: "some order with the least cost": equal costs count, one more does not. */
    private static void tieOfOrders() {
        Told.due("a tie of three", Told.of(Told.circle(3)) + "; winners(4) = 7; setWeight(0, 1, 2); winners(4) = 5;"
            + " setWeight(1, 2, 2); winners(4) = 1; setWeight(0, 2, 2); winners(4) = 7; setWeight(0, 2, 3);"
            + " winners(4) = 6");
        Told.due("a tie with great weights", Told.of(Told.circle(3)) + "; setWeight(0, 1, 100); setWeight(1, 2, 100);"
            + " setWeight(0, 2, 99); winners(4) = 1; setWeight(0, 2, 100); winners(4) = 7; setWeight(0, 1, 99);"
            + " winners(4) = 2");
        Told.due("a tie of one against two", "setResult(3, 0); winners(4) = 1; setWeight(0, 3, 2); winners(4) = 11;"
            + " setWeight(0, 3, 3); winners(4) = 10");
    }

    /** Promise 34 for two players alone. */
    private static void twoPlayers34() {
        for (int rule = 0; rule < 5; rule++) {
            Told.due("34 two players", "reset(2); winners(" + rule + ") = 1; setWeight(0, 1, 100); winners(" + rule
                + ") = 1; setResult(1, 0); winners(" + rule + ") = 2; undisputed() = 1");
        }
    }

    /** Promise 34, "as a bit mask", for ten players: the last one's bit is 512, all bits are 1023. */
    private static void tenPlayers34() {
        for (int rule = 0; rule < 5; rule++) {
            Told.due("34 ten players", "reset(10); winners(" + rule + ") = 1; exchange(0, 9); winners(" + rule
                + ") = 512; undisputed() = 1");
        }
        Told.due("34 all of ten", Told.of("13459,2456,03567,14678,25789,3689,0479,0158,01269,1237")
            + "; winners(0) = 1023; winners(1) = 1023; winners(2) = 285; winners(3) = 1023; winners(4) = 285;"
            + " undisputed() = 5");
    }

    // ---- undisputed

    /** Promise 35: "the number of players who are winners by all five rules": it may be none. */
    private static void undisputed35Least() {
        Told.due("35 none", ALL_DIFFER + "; undisputed() = 0");
        Told.due("35 none of four", "setResult(3, 0); undisputed() = 1; setWeight(0, 3, 9); setWeight(0, 1, 9);"
            + " setWeight(0, 2, 9); winners(0) = 15; winners(1) = 11; winners(2) = 3; winners(3) = 11;"
            + " winners(4) = 8; undisputed() = 0");
    }

    /** Promise 35: at most all players. */
    private static void undisputed35Most() {
        Told.due("35 one", "undisputed() = 1; reset(2); undisputed() = 1; reset(10); undisputed() = 1");
        Told.due("35 all", Told.of(Told.circle(3)) + "; undisputed() = 3; setWeight(0, 1, 2); undisputed() = 2;"
            + " setWeight(1, 2, 2); undisputed() = 1");
        Told.due("35 all of nine", Told.of(Told.circle(9)) + "; undisputed() = 9");
    }
}
