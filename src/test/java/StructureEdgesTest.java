/**
 * The boundary cases that the document names under "Tournament" (cycles, triangles), "Structure" and in the promises
 * 24 to 31: for each such sentence a test of its own, with the sentence in the remark before it.
 */
public final class StructureEdgesTest {
    /** Players 0 to 9, each of whom beats those 1, 3, 4, 5 and 9 further on, modulo 11: the most spanning paths. */
    private static final String MOST_PATHS = "13459,2456,03567,14678,25789,3689,0479,0158,01269,1237";
    /** Components {0}, {1, 2, 3}, {4}, {5, 6, 7, 8}, {9}. */
    private static final String PARTS = "123456789,2456789,3456789,1456789,56789,679,789,89,59,-";

    public static void main(String[] args) {
        triangles();
        distances();
        components();
        spanning();
        cycles();
        cycleLengths();
        Check.end();
    }

    private static void triangles() {
        triangles24OfFew();
        triangles24AtMost();
        triangles24InBothDirections();
    }

    private static void distances() {
        distance25Ranges();
        distance25BothTheSame();
        distance25NoPath();
        distance25Lengths();
    }

    private static void components() {
        components26From1ToN();
        componentsOfOnePlayer();
        strongWithOneComponent();
        componentOf27Ranges();
        componentOf27Order();
    }

    private static void spanning() {
        spanningPaths28();
        spanningPaths28AtMost();
        pathAt29Ranges();
        pathAt29Least();
    }

    private static void cycles() {
        cycleAt30Player();
        cycleAt30Length();
        cycleAt30Place();
        cycleAt30NotFound();
        cycleAt30Precedence();
        cycleAt30Least();
        cycleAt30OneAfterTheOther();
        cycleOfAtLeast3();
    }

    private static void cycleLengths() {
        cycleLengths31Ranges();
        cycleLengths31From3ToN();
    }

    // ---- triangles

    /** Promise 24 and "2 to 10": two players form no triangle, three form one or none. */
    private static void triangles24OfFew() {
        Told.due("24 two players", "reset(2); triangles() = 0; reversePlayer(0); triangles() = 0");
        Told.due("24 three players", "reset(3); triangles() = 0; setResult(2, 0); triangles() = 1; setResult(1, 0);"
            + " triangles() = 0");
        Told.due("24 four players", "triangles() = 0; setResult(3, 0); triangles() = 2; setResult(2, 0);"
            + " triangles() = 2; setResult(3, 1); triangles() = 2;"
            + " setResult(3, 2); triangles() = 1; setResult(1, 0); triangles() = 0");
    }

    /** Promise 24: "the number of triangles": none of ten players in a row, at most 40. */
    private static void triangles24AtMost() {
        Told.due("24 none of ten", "reset(10); triangles() = 0; exchange(0, 9); triangles() = 0");
        Told.due("24 most of ten", "[5 4 5 4 5 4 5 4 5 4] construct() = 10; triangles() = 40");
        Told.due("24 most of nine", Told.of(Told.circle(9)) + "; triangles() = 30");
        Told.due("24 one of ten", "reset(10); setResult(9, 7); triangles() = 1; setResult(9, 0); triangles() = 8");
    }

    /** Tournament: "The triangles are the sets of three players that form a cycle (in one of the two directions)". */
    private static void triangles24InBothDirections() {
        Told.due("24 each direction", "reset(3); setResult(2, 0); triangles() = 1; reverseTriangle(0, 1, 2);"
            + " all = 2,0,1; triangles() = 1");
        Told.due("24 one of each direction", Told.of("1345,2345,0345,4,5,3") + "; triangles() = 2;"
            + " reverseTriangle(0, 1, 2); triangles() = 2; cycleAt(0, 3, 1) = 2; cycleAt(3, 3, 1) = 4");
    }

    // ---- distances

    /** Promise 25: "from: number of a player", "to: number of a player", "no such player". */
    private static void distance25Ranges() {
        Told.range("25 from of 2", "reset(2)", "distance(?, 1)", 0, 1);
        Told.range("25 to of 2", "reset(2)", "distance(0, ?)", 0, 1);
        Told.range("25 from of 4", "players()", "distance(?, 3)", 0, 3);
        Told.range("25 to of 4", "players()", "distance(0, ?)", 0, 3);
        Told.range("25 from of 10", "reset(10)", "distance(?, 5)", 0, 9);
        Told.range("25 to of 10", "reset(10)", "distance(5, ?)", 0, 9);
    }

    /** Promise 25: "0 if both are the same", but INVALID_ARGUMENT if there is no such player. */
    private static void distance25BothTheSame() {
        for (int n = 2; n <= 10; n++) {
            Told.due("25 both the same", "reset(" + n + "); distance(0, 0) = 0; distance(" + (n - 1) + ", " + (n - 1)
                + ") = 0; distance(" + n + ", " + n + ") = -1; distance(-1, -1) = -1; distance(MIN, MIN) = -1;"
                + " distance(MAX, MAX) = -1");
        }
        Told.due("25 both the same in a cycle", Told.of(Told.circle(3)) + "; distance(0, 0) = 0; distance(2, 2) = 0");
    }

    /** Promise 25: "NOT_FOUND if there is no path". */
    private static void distance25NoPath() {
        Told.due("25 no path", "distance(3, 0) = -4; distance(3, 2) = -4; distance(1, 0) = -4; reset(2);"
            + " distance(1, 0) = -4; reset(10); distance(9, 0) = -4; distance(9, 8) = -4; distance(1, 0) = -4");
        Told.due("25 no path between components", Told.of(PARTS) + "; distance(8, 4) = -4; distance(9, 5) = -4;"
            + " distance(3, 0) = -4; distance(1, 9) = 1; distance(8, 7) = 2; distance(3, 2) = 2");
    }

    /** Tournament: "its length is the number of its players minus 1". Promise 25: 1 to n - 1. */
    private static void distance25Lengths() {
        Told.due("25 two players", "reset(2); distance(0, 1) = 1; distance(1, 0) = -4; reversePlayer(0);"
            + " distance(1, 0) = 1; distance(0, 1) = -4");
        for (int n = 3; n <= 10; n++) {
            Told.due("25 longest", Told.of(Told.ladder(n)) + "; distance(0, " + (n - 1) + ") = " + (n - 1)
                + "; distance(0, " + (n - 2) + ") = " + (n - 2) + "; distance(0, 1) = 1; distance(1, " + (n - 1)
                + ") = " + (n - 2) + "; distance(" + (n - 1) + ", 0) = 1; distance(" + (n - 1) + ", " + (n - 2)
                + ") = 2");
        }
    }

    // ---- components

    /** Structure: "They are numbered from 0". Promise 26: 1 to n components. */
    private static void components26From1ToN() {
        for (int n = 2; n <= 10; n++) {
            Told.due("26 n components", "reset(" + n + "); components() = " + n + "; componentOf(0) = 0; componentOf("
                + (n - 1) + ") = " + (n - 1));
        }
        for (int n = 3; n <= 10; n++) {
            Told.due("26 one component", "reset(" + n + "); setResult(" + (n - 1) + ", 0); components() = 1;"
                + " componentOf(0) = 0; componentOf(" + (n - 1) + ") = 0; componentOf(1) = 0");
            Told.due("26 one component of a ladder", Told.of(Told.ladder(n)) + "; components() = 1; componentOf("
                + (n - 1) + ") = 0");
        }
        Told.due("26 two players always have two", "reset(2); components() = 2; setResult(1, 0); components() = 2;"
            + " componentOf(1) = 0; componentOf(0) = 1");
    }

    /** Structure: "The components are the largest sets ... (a set of one player, too)". */
    private static void componentsOfOnePlayer() {
        Told.due("a set of one player, too", Told.of(PARTS) + "; components() = 5; componentOf(0) = 0;"
            + " componentOf(1) = 1; componentOf(2) = 1; componentOf(3) = 1; componentOf(4) = 2; componentOf(5) = 3;"
            + " componentOf(6) = 3; componentOf(7) = 3; componentOf(8) = 3; componentOf(9) = 4");
        Told.due("one player first", "reset(4); setResult(3, 1); components() = 2; componentOf(0) = 0;"
            + " componentOf(3) = 1; winners(0) = 1");
        Told.due("one player last", "reset(4); setResult(2, 0); components() = 2; componentOf(2) = 0;"
            + " componentOf(3) = 1; winners(0) = 7");
        Told.due("one player between", Told.of("13456,23456,03456,456,5,6,4") + "; components() = 3;"
            + " componentOf(2) = 0; componentOf(3) = 1; componentOf(4) = 2");
        Told.due("one of ten first", "reset(10); setResult(9, 1); components() = 2; componentOf(0) = 0;"
            + " componentOf(9) = 1; componentOf(1) = 1");
        Told.due("one of ten last", "reset(10); setResult(8, 0); components() = 2; componentOf(9) = 1;"
            + " componentOf(8) = 0");
    }

    /** Structure: "The tournament is strong if there is one component": a result more or less decides. */
    private static void strongWithOneComponent() {
        Told.due("strong by one result", "reset(10); components() = 10; setResult(9, 0) = 0; components() = 1;"
            + " setResult(0, 9) = 0; components() = 10; setResult(8, 0); components() = 2; setResult(9, 8) = 0;"
            + " components() = 1");
        Told.due("strong with three", Told.of(Told.circle(3)) + "; components() = 1; setResult(2, 1);"
            + " components() = 3");
    }

    /** Promise 27: "player: number of a player", "no such player". */
    private static void componentOf27Ranges() {
        Told.range("27 player of 2", "reset(2)", "componentOf(?)", 0, 1);
        Told.range("27 player of 4", "players()", "componentOf(?)", 0, 3);
        Told.range("27 player of 10", "reset(10)", "componentOf(?)", 0, 9);
        Told.range("27 player of 10 in one component", Told.of(MOST_PATHS), "componentOf(?)", 0, 9);
    }

    /** Structure: "in the order in which the players of each one beat all players of the later ones". */
    private static void componentOf27Order() {
        Told.due("27 the order of results, not of numbers", "reset(10); exchange(0, 9); exchange(4, 5);"
            + " componentOf(9) = 0; componentOf(0) = 9; componentOf(5) = 4; componentOf(4) = 5; componentOf(1) = 1");
        Told.due("27 the greater set last", "reset(10); reversePlayer(9); setResult(8, 0); componentOf(9) = 0;"
            + " componentOf(0) = 1; componentOf(8) = 1; components() = 2");
    }

    // ---- spanning paths

    /** Structure: "A spanning path is a path of all players". Promise 28: at least one. */
    private static void spanningPaths28() {
        for (int n = 2; n <= 10; n++) {
            Told.due("28 one", "reset(" + n + "); spanningPaths() = 1; exchange(0, " + (n - 1)
                + "); spanningPaths() = 1");
        }
        for (int n = 3; n <= 10; n++) {
            Told.due("28 the last one beats the first one", "reset(" + n + "); setResult(" + (n - 1)
                + ", 0); spanningPaths() = " + ((1 << n - 2) + 1));
        }
        Told.due("28 two players", "reset(2); spanningPaths() = 1; setResult(1, 0); spanningPaths() = 1");
        Told.due("28 parts", Told.of(PARTS) + "; spanningPaths() = 15");
    }

    /** Promise 28: "the number of spanning paths": ten players have up to 15745. */
    private static void spanningPaths28AtMost() {
        Told.due("28 most of ten", Told.of(MOST_PATHS) + "; spanningPaths() = 15745");
        Told.due("28 most of seven", Told.of("124,235,346,045,156,026,013") + "; spanningPaths() = 189");
        Told.due("28 most of three", Told.of(Told.circle(3)) + "; spanningPaths() = 3; reset(2); spanningPaths() = 1");
    }

    /** Promise 29: "place: 0 to n - 1", "INVALID_ARGUMENT if place is out of range". */
    private static void pathAt29Ranges() {
        Told.range("29 place of 2", "reset(2)", "pathAt(?)", 0, 1);
        Told.range("29 place of 4", "players()", "pathAt(?)", 0, 3);
        Told.range("29 place of 10", "reset(10)", "pathAt(?)", 0, 9);
        Told.range("29 place of 10, many paths", Told.of(MOST_PATHS), "pathAt(?)", 0, 9);
    }

    /** Promise 29: "the least spanning path": by the first different player. */
    private static void pathAt29Least() {
        Told.due("29 two players", "reset(2); pathAt(0) = 0; pathAt(1) = 1; pathAt(2) = -1; setResult(1, 0);"
            + " pathAt(0) = 1; pathAt(1) = 0");
        Told.due("29 the last one is first", "reset(10); reversePlayer(9); pathAt(0) = 9; pathAt(1) = 0;"
            + " pathAt(9) = 8");
        Told.due("29 the least of five", "setResult(3, 0); pathAt(0) = 0; pathAt(1) = 1; pathAt(2) = 2; pathAt(3) = 3");
        Told.due("29 a low player leads nowhere", Told.of("2,03,134,04,01") + "; pathAt(0) = 0; pathAt(1) = 2;"
            + " pathAt(2) = 1; pathAt(3) = 3; pathAt(4) = 4");
        Told.due("29 the lowest next one would leave one behind", Told.of("13,2,0,124,012")
            + "; pathAt(0) = 0; pathAt(1) = 3; pathAt(2) = 4; pathAt(3) = 1; pathAt(4) = 2");
        Told.due("29 ladder", Told.of(Told.ladder(10)) + "; pathAt(0) = 0; pathAt(9) = 9; pathAt(5) = 5");
    }

    // ---- cycles

    /** Promise 30: "player: number of a player". */
    private static void cycleAt30Player() {
        Told.range("30 player of 3", Told.of(Told.circle(3)), "cycleAt(?, 3, 0)", 0, 2);
        Told.range("30 player of 4", "setResult(3, 0)", "cycleAt(?, 4, 3)", 0, 3);
        Told.range("30 player of 10", Told.of(Told.ladder(10)), "cycleAt(?, 10, 9)", 0, 9);
        Told.range("30 player without a cycle", "reset(10)", "cycleAt(?, 3, 0)", 0, 9);
    }

    /** Promise 30: "length: 3 to n". */
    private static void cycleAt30Length() {
        Told.range("30 length of 3", Told.of(Told.circle(3)), "cycleAt(0, ?, 0)", 3, 3);
        Told.range("30 length of 4", "setResult(3, 0)", "cycleAt(0, ?, 2)", 3, 4);
        Told.range("30 length of 10", Told.of(MOST_PATHS), "cycleAt(9, ?, 2)", 3, 10);
        Told.range("30 length of 10 without a cycle", "reset(10)", "cycleAt(9, ?, 2)", 3, 10);
        Told.due("30 two players have no length", "reset(2); cycleAt(0, 3, 0) = -1; cycleAt(0, 2, 0) = -1;"
            + " cycleAt(1, 2, 1) = -1; cycleAt(0, 1, 0) = -1; cycleAt(0, 0, 0) = -1; cycleAt(0, MIN, 0) = -1;"
            + " cycleAt(0, MAX, 0) = -1");
    }

    /** Promise 30: "place: 0 to length - 1", also where n is more than the length. */
    private static void cycleAt30Place() {
        for (int length = 3; length <= 10; length++) {
            Told.range("30 place", Told.of(MOST_PATHS), "cycleAt(3, " + length + ", ?)", 0, length - 1);
            Told.range("30 place without a cycle", "reset(10)", "cycleAt(3, " + length + ", ?)", 0, length - 1);
        }
        Told.due("30 the place of no shorter one", Told.of(Told.circle(5)) + "; cycleAt(0, 3, 2) = 3;"
            + " cycleAt(0, 3, 3) = -1; cycleAt(0, 3, 4) = -1; cycleAt(0, 4, 3) = 3; cycleAt(0, 4, 4) = -1;"
            + " cycleAt(0, 5, 4) = 4; cycleAt(0, 5, 5) = -1; cycleAt(0, 5, -1) = -1");
    }

    /** Promise 30: "NOT_FOUND if there is no such cycle": longer than the component, or a component of one player. */
    private static void cycleAt30NotFound() {
        Told.due("30 none", "cycleAt(0, 3, 0) = -4; cycleAt(0, 4, 3) = -4; cycleAt(3, 3, 2) = -4; reset(3);"
            + " cycleAt(1, 3, 1) = -4; reset(10); cycleAt(5, 10, 9) = -4");
        Told.due("30 just as long as the component", Told.of(PARTS) + "; cycleAt(1, 3, 2) = 3; cycleAt(1, 4, 0) = -4;"
            + " cycleAt(5, 3, 0) = 5; cycleAt(5, 4, 3) = 8; cycleAt(5, 5, 0) = -4; cycleAt(5, 10, 0) = -4;"
            + " cycleAt(0, 3, 0) = -4; cycleAt(4, 3, 2) = -4; cycleAt(9, 3, 1) = -4; cycleAt(9, 10, 9) = -4");
        Told.due("30 all but one", "reset(10); setResult(8, 0); cycleAt(0, 9, 8) = 8; cycleAt(0, 10, 0) = -4;"
            + " cycleAt(9, 3, 0) = -4");
    }

    /** Promise 30 and "INVALID_ARGUMENT is returned rather than ... NOT_FOUND". */
    private static void cycleAt30Precedence() {
        Told.due("30 invalid before none", "cycleAt(0, 3, 3) = -1; cycleAt(0, 3, -1) = -1; cycleAt(0, 5, 0) = -1;"
            + " cycleAt(0, 2, 0) = -1; cycleAt(4, 3, 0) = -1; cycleAt(-1, 3, 0) = -1; cycleAt(0, 4, 4) = -1;"
            + " cycleAt(MIN, MIN, MIN) = -1; cycleAt(MAX, MAX, MAX) = -1; cycleAt(0, 3, MAX) = -1;"
            + " cycleAt(0, 3, MIN) = -1; cycleAt(0, 3, 2) = -4");
    }

    /** Promise 30: "the least cycle of a length that begins with a player": by the first different player. */
    private static void cycleAt30Least() {
        Told.due("30 the least of two", "setResult(3, 0); cycleAt(0, 3, 1) = 1; cycleAt(0, 3, 2) = 3;"
            + " cycleAt(3, 3, 0) = 3; cycleAt(3, 3, 1) = 0; cycleAt(3, 3, 2) = 1; cycleAt(2, 3, 2) = 0");
        Told.due("30 the last but one decides", Told.of("1,23,034,04,01") + "; cycleAt(0, 4, 1) = 1;"
            + " cycleAt(0, 4, 2) = 2; cycleAt(0, 4, 3) = 3; cycleAt(0, 3, 2) = 2; cycleAt(0, 5, 3) = 3");
        Told.due("30 ladder", Told.of(Told.ladder(10)) + "; cycleAt(9, 10, 0) = 9; cycleAt(9, 10, 1) = 0;"
            + " cycleAt(9, 10, 9) = 8; cycleAt(5, 3, 1) = 3; cycleAt(5, 3, 2) = 4; cycleAt(0, 10, 9) = 9");
    }

    /** Promise 30: each answer is of the present tournament, whatever was asked before. */
    private static void cycleAt30OneAfterTheOther() {
        for (String all : new String[] {MOST_PATHS, PARTS, Told.ladder(10), Told.circle(9)}) {
            StringBuilder run = new StringBuilder(Told.of(all));
            for (String change : new String[] {"players()", "reversePlayer(5)", "exchange(0, 8)", "reversePath(1, 2)"}) {
                run.append("; ").append(change);
                for (int player = 0; player < all.split(",").length; player++) {
                    for (int length = all.split(",").length; length >= 3; length--) {
                        run.append("; cycleAt(").append(player).append(", ").append(length).append(", ")
                            .append(player % 2 == 0 ? 1 : length - 1).append(")");
                    }
                }
            }
            Told.due("30 one after the other", run.toString());
        }
    }

    /** Tournament: "A cycle of length k, at least 3, is a path of k players of which the last one beats the first". */
    private static void cycleOfAtLeast3() {
        Told.due("cycle of three", Told.of(Told.circle(3)) + "; cycleAt(0, 2, 0) = -1; cycleAt(0, 1, 0) = -1;"
            + " cycleAt(0, 3, 0) = 0; cycleAt(0, 3, 1) = 1; cycleAt(0, 3, 2) = 2; cycleLengths(0) = 1;"
            + " setResult(0, 2); cycleAt(0, 3, 0) = -4; cycleLengths(0) = 0");
        Told.due("cycle of ten", "reset(10); cycleAt(0, 10, 0) = -4; setResult(9, 0); cycleAt(0, 10, 9) = 9;"
            + " cycleAt(9, 10, 1) = 0; cycleAt(0, 11, 0) = -1");
    }

    /** Promise 31: "player: number of a player", "no such player". */
    private static void cycleLengths31Ranges() {
        Told.range("31 player of 2", "reset(2)", "cycleLengths(?)", 0, 1);
        Told.range("31 player of 4", "setResult(3, 0)", "cycleLengths(?)", 0, 3);
        Told.range("31 player of 10", "reset(10)", "cycleLengths(?)", 0, 9);
        Told.range("31 player of 10 in one component", Told.of(MOST_PATHS), "cycleLengths(?)", 0, 9);
    }

    /** Promise 31: "Returns the number of lengths, from 3 to n": 0 to n - 2. */
    private static void cycleLengths31From3ToN() {
        for (int n = 3; n <= 10; n++) {
            Told.due("31 all lengths", Told.of(Told.ladder(n)) + "; cycleLengths(0) = " + (n - 2) + "; cycleLengths("
                + (n - 1) + ") = " + (n - 2) + "; reset(" + n + "); cycleLengths(0) = 0; cycleLengths("
                + (n - 1) + ") = 0");
        }
        Told.due("31 two players", "reset(2); cycleLengths(0) = 0; cycleLengths(1) = 0; cycleLengths(2) = -1");
        Told.due("31 parts", Told.of(PARTS) + "; cycleLengths(0) = 0; cycleLengths(1) = 1; cycleLengths(3) = 1;"
            + " cycleLengths(4) = 0; cycleLengths(5) = 2; cycleLengths(8) = 2; cycleLengths(9) = 0");
    }
}
