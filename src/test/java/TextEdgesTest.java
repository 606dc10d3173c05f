/**
 * The boundary cases that the document names under "Texts" and in the promises 10 and 16 to 18: for each such
 * sentence a test of its own, with the sentence in the remark before it.
 */
public final class TextEdgesTest {
    private static final String TWENTY_NINE = "0>1;".repeat(29);

    public static void main(String[] args) {
        characters();
        forms();
        cutOff();
        players();
        entering();
        Check.end();
    }

    private static void characters() {
        type16From32To126();
        type16AtMost120();
        type16Precedence();
        textInitiallyEmpty();
        clearText17();
        clearText17Full();
    }

    private static void forms() {
        fault18Empty();
        fault18FirstDigit();
        fault18Sign();
        fault18SecondDigit();
        fault18Semicolon();
        fault18TwoEqualDigits();
        fault18TheFirstOne();
        fault18OfFull();
    }

    private static void cutOff() {
        fault18CutOffAtTheEnd();
        fault18NothingButFour();
    }

    private static void players() {
        fault18NoSuchPlayer();
        fault18OfThePresentPlayers();
    }

    private static void entering() {
        enter10Empty();
        enter10Fault();
        enter10OneAfterTheOther();
        enter10Greatest();
        enter10TextStays();
        enter10NoWeights();
    }

    // ---- helpers

    private static String typed(String text) {
        StringBuilder run = new StringBuilder();
        for (char character : text.toCharArray()) {
            run.append("type(").append((int) character).append("); ");
        }
        return run.toString();
    }

    /** The text's fault with so many players, and that it is entered just if there is none. */
    private static void dueFault(String what, int players, String text, int fault) {
        int entered = fault == -4 ? text.length() / 4 : -2;
        int changes = fault == -4 ? 1 : 0;
        Told.due(what + ", text " + text, "reset(" + players + "); " + typed(text) + "fault() = " + fault + "; enter() = "
            + entered + "; fault() = " + fault + "; undo() = " + changes + "; clearText() = " + text.length());
    }

    /** Every character at a place of "0>1;" behind some results: those that fit, and all others, which are a fault. */
    private static void dueCharacters(String what, int place, String fitting) {
        for (char character = 32; character <= 126; character++) {
            StringBuilder result = new StringBuilder("0>1;");
            result.setCharAt(place, character);
            boolean fits = fitting.indexOf(character) >= 0;
            dueFault(what, 4, result.toString(), fits ? -4 : 0);
            dueFault(what, 4, "2<3;" + result, fits ? -4 : 4);
            dueFault(what, 4, "2<3;3>1;" + result + "0>0;", fits ? 12 : 8);
        }
    }

    // ---- characters

    /** Promise 16: "character: its code, 32 to 126", "INVALID_ARGUMENT if character is out of range". */
    private static void type16From32To126() {
        Told.range("16 character", "players()", "type(?)", 32, 126);
        Told.range("16 character behind others", "'0>1;2'", "type(?)", 32, 126);
        Told.due("16 just outside", "type(31) = -1; type(127) = -1; type(32) = 1; type(126) = 2; type(MIN) = -1;"
            + " type(MAX) = -1; type(0) = -1; type(-1) = -1; type(10) = -1; type(128) = -1; type(65584) = -1;"
            + " type(-65488) = -1; clearText() = 2; undo() = -2");
    }

    /** Texts: "a text of at most 120 characters". Promise 16: "LIMIT_REACHED if the text has 120 characters". */
    private static void type16AtMost120() {
        StringBuilder run = new StringBuilder();
        for (int length = 1; length <= 120; length++) {
            run.append("type(").append((int) "0>1;".charAt((length - 1) % 4)).append(") = ").append(length).append("; ");
        }
        Told.due("16 at most 120", run + "type(48) = -3; type(32) = -3; type(126) = -3; fault() = -4; enter() = 30;"
            + " type(59) = -3; clearText() = 120; type(48) = 1");
    }

    /** Promise 16 and "INVALID_ARGUMENT is returned rather than ... LIMIT_REACHED". */
    private static void type16Precedence() {
        Told.due("16 invalid before full", "'" + TWENTY_NINE + "0>1' type(127) = -1; type(31) = -1; type(59) = 120;"
            + " type(31) = -1; type(127) = -1; type(MIN) = -1; type(MAX) = -1; type(0) = -1; type(59) = -3;"
            + " clearText() = 120");
    }

    /** Texts: "initially empty". */
    private static void textInitiallyEmpty() {
        Told.due("initially empty", "clearText() = 0; fault() = -4; type(48) = 1; fault() = 0");
        Told.due("initially empty, first character", "type(126) = 1; clearText() = 1; clearText() = 0");
    }

    /** Promise 17: "Returns the length it had", 0 to 120. */
    private static void clearText17() {
        for (int length : new int[] {0, 1, 2, 3, 4, 5, 60, 118, 119, 120}) {
            String text = "3<0;".repeat(30).substring(0, length);
            Told.due("17 length " + length, "'" + text + "' clearText() = " + length + "; clearText() = 0;"
                + " fault() = -4; enter() = 0; all = 123,23,3,-; undo() = 0");
        }
    }

    /** Promise 17: "Empties the text": also the full one, and none of its characters is left. */
    private static void clearText17Full() {
        Told.due("17 full", "'" + "3>0;".repeat(30) + "' type(51) = -3; clearText() = 120; fault() = -4; type(49) = 1;"
            + " fault() = 0; type(62) = 2; fault() = 0; type(48) = 3; fault() = 0; type(59) = 4; fault() = -4;"
            + " enter() = 1; all = 23,023,3,-; clearText() = 4; undo() = 0");
    }

    // ---- forms

    /** Promise 18: "NOT_FOUND if it has none (also if it is empty)". */
    private static void fault18Empty() {
        Told.due("18 empty", "fault() = -4; '0' fault() = 0; clearText() = 1; fault() = -4; reset(2); fault() = -4");
        dueFault("18 none", 4, "3>1;", -4);
        dueFault("18 none", 4, "3<1;", -4);
        dueFault("18 none", 4, "3>1;0<2;1>3;", -4);
    }

    /** Texts: "It is a sequence of results, each a digit, ...": 0 to 9, of a player who exists. */
    private static void fault18FirstDigit() {
        dueCharacters("18 first digit", 0, "023");
    }

    /** Texts: "\">\" or \"<\"". */
    private static void fault18Sign() {
        dueCharacters("18 sign", 1, "<>");
    }

    /** Texts: "a digit, and": the second one. */
    private static void fault18SecondDigit() {
        dueCharacters("18 second digit", 2, "123");
    }

    /** Texts: "and \";\"". */
    private static void fault18Semicolon() {
        dueCharacters("18 semicolon", 3, ";");
    }

    /** Texts: "The two digits are different." */
    private static void fault18TwoEqualDigits() {
        for (int n = 2; n <= 10; n++) {
            for (int player = 0; player <= 9; player++) {
                dueFault("18 two equal digits", n, player + ">" + player + ";", 0);
                dueFault("18 two equal digits", n, "1<0;" + player + "<" + player + ";0>1;", 4);
            }
        }
    }

    /** Texts: "the position, from 0, of the first character of the first result that is not of this form". */
    private static void fault18TheFirstOne() {
        dueFault("18 first of several", 4, "0>0;1>1;", 0);
        dueFault("18 first of several", 4, "0>1;1>1;0>4;x", 4);
        dueFault("18 a player who does not exist before a form", 4, "0>1;2>3;4>0;0=1;", 8);
        dueFault("18 a form before a player who does not exist", 4, "0>1;2=3;4>0;", 4);
        dueFault("18 a fault before what is cut off", 4, "0>1;4>0;1>", 4);
        dueFault("18 the first character, not the wrong one", 4, "0>1;0>1,", 4);
        dueFault("18 not again in step after a blank", 4, "0>1; 0>1;", 4);
        dueFault("18 no result without a semicolon between", 4, "0>12>3;", 0);
    }

    /** Texts: "at most 120 characters": 30 results, each of which may be the fault. */
    private static void fault18OfFull() {
        dueFault("18 thirty results", 4, "0>1;".repeat(30), -4);
        for (int result = 0; result < 30; result++) {
            String text = "0>1;".repeat(result) + "4>1;" + "0>1;".repeat(29 - result);
            dueFault("18 a fault in each of thirty", 4, text, 4 * result);
            dueFault("18 no fault with a player more", 5, text, -4);
        }
        dueFault("18 the last character", 4, TWENTY_NINE + "0>1:", 116);
        dueFault("18 the last character is missing", 4, TWENTY_NINE + "0>1", 116);
    }

    // ---- cut off

    /** Texts: a result "that is not of this form": one, two or three characters at the end are none. */
    private static void fault18CutOffAtTheEnd() {
        for (int results = 0; results < 30; results++) {
            for (int more = 1; more <= 3; more++) {
                String text = "1<0;".repeat(results) + "0>1;".substring(0, more);
                dueFault("18 cut off at the end", 4, text, 4 * results);
            }
        }
        Told.due("18 while a result is typed", "fault() = -4; type(48); fault() = 0; type(62); fault() = 0; type(49);"
            + " fault() = 0; type(59); fault() = -4; type(51); fault() = 4; type(60); fault() = 4; type(48);"
            + " fault() = 4; enter() = -2; type(59); fault() = -4; enter() = 2; all = 123,23,3,-");
        Told.due("18 what stood behind the end", "'0>1;2>1;' clearText(); '0>1;2>1' fault() = 4; clearText();"
            + " '0>1;2' fault() = 4; clearText(); '0>1' fault() = 0; enter() = -2; undo() = -2");
    }

    /** Texts: four characters are a result, and only results of this form follow. */
    private static void fault18NothingButFour() {
        dueFault("18 five characters", 4, "0>1;;", 4);
        dueFault("18 a blank", 4, " ", 0);
        dueFault("18 four blanks", 4, "    ", 0);
        dueFault("18 a result behind a semicolon", 4, ";0>1;", 0);
        dueFault("18 two digits for a player", 10, "01>2;", 0);
        dueFault("18 two signs", 4, "0>>1;", 0);
        dueFault("18 a space behind", 4, "0>1; ", 4);
    }

    // ---- players

    /** Texts: "or names a player who does not exist": n - 1 does, n does not. */
    private static void fault18NoSuchPlayer() {
        for (int n = 2; n <= 10; n++) {
            for (int digit = 1; digit <= 9; digit++) {
                int fault = digit < n ? -4 : 0;
                dueFault("18 first player", n, digit + ">0;", fault);
                dueFault("18 second player", n, "0>" + digit + ";", fault);
                dueFault("18 first player loses", n, digit + "<0;", fault);
                dueFault("18 second player wins", n, "0<" + digit + ";", fault);
            }
        }
        dueFault("18 both do not exist", 4, "4>5;", 0);
        dueFault("18 both exist just so", 10, "9>8;8<9;", -4);
    }

    /** Texts: "a player who does not exist": of the present tournament, whatever it was when the text was typed. */
    private static void fault18OfThePresentPlayers() {
        Told.due("18 by the present players", "'9>8;' fault() = 0; enter() = -2; reset(10); fault() = -4; reset(9);"
            + " fault() = 0; enter() = -2; undo() = 1; fault() = -4; enter() = 1; recall() = 4; fault() = 0; undo();"
            + " fault() = -4; [1 0] construct() = 2; fault() = 0");
    }

    // ---- entering

    /** Promise 10: "Returns the number of results in the text": 0 if it is empty, and that is a change. */
    private static void enter10Empty() {
        Told.due("10 empty", "enter() = 0; all = 123,23,3,-; ones; undo() = 0; undo() = -2; enter() = 0; enter() = 0;"
            + " undo() = 1");
    }

    /** Promise 10: "NOT_POSSIBLE if the text has a fault": none of its results is entered. */
    private static void enter10Fault() {
        Told.due("10 fault at the end", "'3>0;2>0;4>0;' enter() = -2; all = 123,23,3,-; undo() = -2; fault() = 8;"
            + " reset(5); enter() = 3; undo() = 1");
        Told.due("10 fault at the beginning", "'0>0;3>0;' enter() = -2; all = 123,23,3,-; undo() = -2");
        Told.due("10 cut off", "'3>0;2>0' enter() = -2; all = 123,23,3,-; undo() = -2; type(59) = 8; enter() = 2;"
            + " all = 1,23,03,0; undo() = 0; all = 123,23,3,-");
    }

    /** Promise 10: "Enters the results of the text, one after the other": of the same pair the last one counts. */
    private static void enter10OneAfterTheOther() {
        Told.due("10 one after the other", "'3>0;3<0;' enter() = 2; all = 123,23,3,-; clearText(); '3<0;3>0;'"
            + " enter() = 2; all = 12,23,3,0; enter() = 2; all = 12,23,3,0; undo() = 2");
        Told.due("10 both forms of a result", "'3>1;' enter() = 1; beats(3, 1) = 1; clearText(); '3<1;' enter() = 1;"
            + " beats(3, 1) = 0; clearText(); '1<3;' enter() = 1; beats(3, 1) = 1; clearText(); '1>3;' enter() = 1;"
            + " beats(3, 1) = 0");
    }

    /** Promise 10 and "at most 120 characters": thirty results, one change; two and ten players. */
    private static void enter10Greatest() {
        Told.due("10 thirty results", "reset(10); '" + TWENTY_NINE + "9>0;' enter() = 30; beats(9, 0) = 1;"
            + " undo() = 1; beats(9, 0) = 0; undo() = 0");
        Told.due("10 thirty different results", "reset(10); '1>0;2>0;3>0;4>0;5>0;6>0;7>0;8>0;9>0;2>1;3>1;4>1;5>1;6>1;"
            + "7>1;8>1;9>1;3>2;4>2;5>2;6>2;7>2;8>2;9>2;9<3;4>3;5>3;6>3;7>3;8>3;' enter() = 30;"
            + " score(0) = 0; score(1) = 1; score(2) = 2; score(3) = 4; beats(3, 9) = 1; score(9) = 3;"
            + " score(8) = 5; undo() = 1; score(0) = 9");
        Told.due("10 two players", "reset(2); '1>0;' enter() = 1; all = -,0; clearText(); '1<0;' enter() = 1; all = 1,-;"
            + " clearText(); '0>2;' enter() = -2; all = 1,-; undo() = 2");
    }

    /** Promise 10: "The text stays." */
    private static void enter10TextStays() {
        Told.due("10 the text stays", "'3>0;' enter() = 1; fault() = -4; setResult(0, 3); enter() = 1;"
            + " beats(3, 0) = 1; type(48) = 5; enter() = -2; fault() = 4; clearText() = 5");
        Told.due("10 the full text stays", "'" + TWENTY_NINE + "3>0;' enter() = 30; type(48) = -3; enter() = 30;"
            + " clearText() = 120; undo() = 1");
    }

    /** Promise 10 enters results: the weights stay. */
    private static void enter10NoWeights() {
        Told.due("10 weights stay", "setWeight(0, 3, 100); '3>0;' enter() = 1; weight(0, 3) = 100; weight(0, 1) = 1;"
            + " leastCost() = 2");
    }
}
