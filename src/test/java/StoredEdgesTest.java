/**
 * The boundary cases that the document names in the promises 36 to 39: for each such sentence a test of its own, with
 * the sentence in the remark before it.
 */
public final class StoredEdgesTest {
    public static void main(String[] args) {
        stores();
        differences();
        likeness();
        towards();
        Check.end();
    }

    private static void stores() {
        store36From2To10();
        store36InPlaceOfTheStoredOne();
        store36StandsApart();
    }

    private static void differences() {
        difference37NumbersOfPlayersDiffer();
        difference37NoneToAll();
        difference37NotWeights();
    }

    private static void likeness() {
        isLikeStored38NumbersOfPlayersDiffer();
        isLikeStored38TwoPlayers();
        isLikeStored38TenPlayers();
        isLikeStored38NotWeights();
        isLikeStored38SameScoresOnly();
    }

    private static void towards() {
        towardsStored39NumbersOfPlayersDiffer();
        towardsStored39None();
        towardsStored39AtLeastTwo();
        towardsStored39TwoPlayers();
        towardsStored39LeastAndGreatest();
        towardsStored39TheLeast();
        towardsStored39OfThePresentOne();
    }

    // ---- stores

    /** Promise 36: "Returns the number of players", 2 to 10. */
    private static void store36From2To10() {
        for (int n = 2; n <= 10; n++) {
            Told.due("36 stores", Told.of(n == 2 ? "-,0" : Told.ladder(n)) + "; setWeight(0, 1, 100); store() = " + n
                + "; difference() = 0; isLikeStored() = 1; reset(4); recall() = " + n + "; all = "
                + (n == 2 ? "-,0" : Told.ladder(n)) + "; weight(1, 0) = 100");
        }
    }

    /** Promise 36: "in place of the stored one": the older one is gone, whatever its number of players. */
    private static void store36InPlaceOfTheStoredOne() {
        Told.due("36 in place of it", "reset(10); store() = 10; reset(2); store() = 2; reset(10); difference() = -2;"
            + " recall() = 2; all = 1,-; recall() = 2; store() = 2; difference() = 0");
    }

    /** Promise 36: what is stored stays as it was when the present tournament changes. */
    private static void store36StandsApart() {
        Told.due("36 stands apart", "setWeight(0, 1, 5); store() = 4; setResult(3, 0); setWeight(0, 1, 6);"
            + " difference() = 1; recall() = 4; all = 123,23,3,-; weight(0, 1) = 5; undo(); weight(0, 1) = 6;"
            + " all = 12,23,3,0");
    }

    // ---- differences

    /** Promise 37: "NOT_POSSIBLE if the numbers of players differ": by one or by more, upwards or downwards. */
    private static void difference37NumbersOfPlayersDiffer() {
        for (int n = 2; n <= 10; n++) {
            Told.due("37 numbers differ", "reset(" + n + "); difference() = " + (n == 4 ? 0 : -2) + "; reset(10);"
                + " store(); reset(" + n + "); difference() = " + (n == 10 ? 0 : -2) + "; reset(2); store(); reset(" + n
                + "); difference() = " + (n == 2 ? 0 : -2));
        }
    }

    /** Promise 37: "the pairs of players whose results differ": none to all of them. */
    private static void difference37NoneToAll() {
        Told.due("37 two players", "reset(2); store(); difference() = 0; setResult(1, 0); difference() = 1");
        for (int n = 2; n <= 10; n++) {
            StringBuilder run = new StringBuilder("reset(" + n + "); store(); difference() = 0");
            int turned = 0;
            for (int a = 0; a < n; a++) {
                for (int b = a + 1; b < n; b++) {
                    turned++;
                    run.append("; setResult(" + b + ", " + a + ") = 0; difference() = " + turned);
                }
            }
            Told.due("37 none to all", run.toString());
        }
    }

    /** Promise 37: "whose results differ": weights do not count. */
    private static void difference37NotWeights() {
        Told.due("37 not weights", "setWeight(0, 1, 100); difference() = 0; store(); setWeight(0, 1, 1);"
            + " difference() = 0; isLikeStored() = 1");
    }

    // ---- likeness

    /** Promise 38: "0 if the numbers of players differ". */
    private static void isLikeStored38NumbersOfPlayersDiffer() {
        for (int n = 2; n <= 10; n++) {
            Told.due("38 numbers differ", "reset(" + n + "); isLikeStored() = " + (n == 4 ? 1 : 0) + "; reset(10);"
                + " store(); reset(" + n + "); isLikeStored() = " + (n == 10 ? 1 : 0) + "; reset(2); store(); reset("
                + n + "); isLikeStored() = " + (n == 2 ? 1 : 0));
        }
    }

    /** Promise 38: two tournaments of two players are always alike, three players make two kinds. */
    private static void isLikeStored38TwoPlayers() {
        Told.due("38 two players", "reset(2); store(); isLikeStored() = 1; setResult(1, 0); isLikeStored() = 1;"
            + " difference() = 1");
        Told.due("38 three players", "reset(3); store(); setResult(1, 0); isLikeStored() = 1; setResult(0, 2);"
            + " isLikeStored() = 1; setResult(0, 1); setResult(2, 0); isLikeStored() = 0; store(); isLikeStored() = 1;"
            + " reverseTriangle(0, 1, 2); isLikeStored() = 1; setResult(0, 1); isLikeStored() = 0");
    }

    /** Promise 38: "a one-to-one assignment of their players", of ten players. */
    private static void isLikeStored38TenPlayers() {
        String moved = "; exchange(0, 9); exchange(1, 5); exchange(9, 3); exchange(2, 7); exchange(4, 8); exchange(6, 0)";
        Told.due("38 ten in a row", "reset(10); store()" + moved + "; isLikeStored() = 1; reversePlayer(4);"
            + " isLikeStored() = 0");
        Told.due("38 ten in a ladder", Told.of(Told.ladder(10)) + "; store()" + moved + "; isLikeStored() = 1;"
            + " reversePlayer(0); isLikeStored() = 0; undo(); isLikeStored() = 1");
        Told.due("38 nearly regular", "[4 4 4 4 4 5 5 5 5 5] construct() = 10; store()" + moved
            + "; isLikeStored() = 1; reversePath(0, 1); isLikeStored() = 0");
    }

    /** Promise 38: "(without regard to weights)". */
    private static void isLikeStored38NotWeights() {
        Told.due("38 not weights", "setResult(3, 0); setWeight(0, 1, 100); store(); exchange(0, 2); setWeight(0, 1, 50);"
            + " setWeight(2, 3, 1); isLikeStored() = 1");
    }

    /** Promise 38: "by which results correspond": equal scores alone do not make them alike. */
    private static void isLikeStored38SameScoresOnly() {
        Told.due("38 same scores of five", Told.of("123,24,34,14,0") + "; store(); " + Told.of("124,23,34,04,1")
            + "; scoreAt(0) = 1; scoreAt(1) = 2; scoreAt(3) = 2; scoreAt(4) = 3; isLikeStored() = 0; recall();"
            + " exchange(0, 4); exchange(2, 3); isLikeStored() = 1");
        Told.due("38 all scores of seven equal", Told.of(Told.circle(7)) + "; store(); "
            + Told.of("124,235,346,045,156,026,013") + "; scoreAt(0) = 3; scoreAt(6) = 3; isLikeStored() = 0; store();"
            + " exchange(0, 6); exchange(2, 3); isLikeStored() = 1");
    }

    // ---- towards the stored one

    /** Promise 39: "NOT_POSSIBLE if the numbers of players differ", which goes before NOT_FOUND. */
    private static void towardsStored39NumbersOfPlayersDiffer() {
        for (int n = 2; n <= 10; n++) {
            Told.due("39 numbers differ", "reset(" + n + "); towardsStored() = " + (n == 4 ? -4 : -2) + "; reset(10);"
                + " store(); reset(" + n + "); towardsStored() = " + (n == 10 ? -4 : -2) + "; reset(2); store(); reset("
                + n + "); towardsStored() = " + (n == 2 ? -4 : -2));
        }
        Told.due("39 numbers differ, with triangles", Told.of(Told.ladder(5)) + "; towardsStored() = -2; store();"
            + " reset(6); setResult(5, 0); towardsStored() = -2");
    }

    /** Promise 39: "NOT_FOUND if there is none". */
    private static void towardsStored39None() {
        Told.due("39 nothing differs", "towardsStored() = -4; setResult(3, 0); store(); towardsStored() = -4");
        Told.due("39 all differs but there is no triangle", "setResult(1, 0); setResult(2, 0); setResult(3, 0);"
            + " setResult(2, 1); setResult(3, 1); setResult(3, 2); difference() = 6; towardsStored() = -4");
        Told.due("39 nothing differs in many triangles", Told.of(Told.circle(9)) + "; store(); towardsStored() = -4;"
            + " setWeight(0, 1, 9); towardsStored() = -4");
    }

    /** Promise 39: "at least two of the three results differ": one does not do, two and three do. */
    private static void towardsStored39AtLeastTwo() {
        Told.due("39 one", "reset(3); store(); setResult(2, 0); triangles() = 1;"
            + " difference() = 1; towardsStored() = -4");
        Told.due("39 two", "reset(3); store(); setResult(1, 0); setResult(2, 1); triangles() = 1; difference() = 2;"
            + " towardsStored() = 12; reverseTriangle(0, 1, 2) = 1; difference() = 1; towardsStored() = -4");
        Told.due("39 three", "reset(3); setResult(2, 0); store(); reverseTriangle(0, 1, 2); difference() = 3;"
            + " towardsStored() = 12; reverseTriangle(0, 1, 2); difference() = 0; towardsStored() = -4");
        Told.due("39 each two of the three", "reset(3); setResult(2, 0); store(); setResult(0, 2); setResult(1, 0);"
            + " triangles() = 0; towardsStored() = -4; store(); setResult(2, 1); triangles() = 1; difference() = 1;"
            + " towardsStored() = -4; recall(); setResult(0, 1); setResult(2, 0); triangles() = 1; difference() = 2;"
            + " towardsStored() = 12");
    }

    /** Promise 39: "such sequence of three players": two players have none. */
    private static void towardsStored39TwoPlayers() {
        Told.due("39 two players", "reset(2); store(); towardsStored() = -4; setResult(1, 0); towardsStored() = -4");
    }

    /** Promise 39: "Returns 100 * a + 10 * b + c", 12 to 789. */
    private static void towardsStored39LeastAndGreatest() {
        for (int a = 0; a < 8; a++) {
            for (int b = a + 1; b < 9; b++) {
                for (int c = b + 1; c < 10; c++) {
                    String three = "(" + a + ", " + b + ", " + c + ")";
                    Told.due("39 each three of ten", "reset(10); setResult(" + c + ", " + a + "); store();"
                        + " reverseTriangle" + three + "; towardsStored() = " + (100 * a + 10 * b + c));
                }
            }
        }
    }

    /** Promise 39: "for the least such sequence of three players with a less than b and b less than c". */
    private static void towardsStored39TheLeast() {
        Told.due("39 the least of two", "reset(6); setResult(2, 0); setResult(5, 3); store(); reverseTriangle(0, 1, 2);"
            + " reverseTriangle(3, 4, 5); towardsStored() = 12; reverseTriangle(0, 1, 2); towardsStored() = 345;"
            + " reverseTriangle(3, 4, 5); towardsStored() = -4");
        Told.due("39 the last one decides", "reset(5); store(); setResult(1, 0); setResult(3, 1); setResult(4, 1);"
            + " towardsStored() = 13; setResult(1, 3); towardsStored() = 14; setResult(1, 4); towardsStored() = -4");
        Told.due("39 the middle one decides", "reset(5); store(); setResult(2, 0); setResult(4, 2); setResult(3, 0);"
            + " setResult(4, 3); towardsStored() = 24; setResult(2, 4); towardsStored() = 34");
    }

    /** Promise 39: "a triangle": of the present tournament, not of the stored one. */
    private static void towardsStored39OfThePresentOne() {
        Told.due("39 the stored one's triangle", "reset(3); setResult(2, 0); store(); reset(3); setResult(1, 0);"
            + " difference() = 2; triangles() = 0; towardsStored() = -4");
        Told.due("39 the present one's triangle", "reset(3); store(); setResult(2, 1); setResult(1, 0);"
            + " difference() = 2; triangles() = 1; towardsStored() = 12");
    }
}
