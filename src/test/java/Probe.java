import java.util.ArrayList;
import java.util.List;

/**
 * Looks at all of an object's state by calls alone, a part at a time: what a look itself changes does no harm, for
 * each look is at an object of its own.
 */
enum Probe {
    PRESENT, STRUCTURE, ORDERS, HISTORY_1, HISTORY_2, HISTORY_3, HISTORY_4, HISTORY_5, HISTORY_6, HISTORY_7, HISTORY_8,
    HISTORY_9, NUMBERS, ONE_NUMBER_MORE, CHARACTERS, ONE_CHARACTER_MORE, TWO_CHARACTERS_MORE, THREE_CHARACTERS_MORE,
    STORED;

    List<Integer> look(Calls desk) {
        List<Integer> answers = new ArrayList<>();
        switch (this) {
            case PRESENT -> pairs(desk, answers);
            case STRUCTURE -> structure(desk, answers);
            case ORDERS -> orders(desk, answers);
            case NUMBERS -> numbers(desk, answers);
            case ONE_NUMBER_MORE -> {
                answers.add(desk.make("append", 1));
                numbers(desk, answers);
            }
            case CHARACTERS -> characters(desk, answers, "");
            case ONE_CHARACTER_MORE -> characters(desk, answers, ";");
            case TWO_CHARACTERS_MORE -> characters(desk, answers, "8;");
            case THREE_CHARACTERS_MORE -> characters(desk, answers, ">9;");
            case STORED -> {
                answers.add(desk.make("recall"));
                pairs(desk, answers);
            }
            default -> history(desk, answers, 1 + ordinal() - HISTORY_1.ordinal());
        }
        return answers;
    }

    boolean ofPresent() {
        return this == PRESENT || this == STRUCTURE || this == ORDERS;
    }

    boolean ofHistory() {
        return name().startsWith("HISTORY");
    }

    boolean ofSequence() {
        return name().contains("NUMBER");
    }

    boolean ofText() {
        return name().contains("CHARACTER");
    }

    private static void pairs(Calls desk, List<Integer> answers) {
        int n = desk.make("players");
        answers.add(n);
        for (int a = 0; a < n; a++) {
            for (int b = a + 1; b < n; b++) {
                answers.add(desk.make("beats", a, b));
                answers.add(desk.make("weight", b, a));
            }
        }
    }

    private static void structure(Calls desk, List<Integer> answers) {
        for (String name : new String[] {"triangles", "components", "spanningPaths", "difference", "isLikeStored",
            "towardsStored"}) {
            answers.add(desk.make(name));
        }
        for (int p = 0; p < desk.make("players"); p++) {
            for (String name : new String[] {"score", "scoreAt", "componentOf", "pathAt", "cycleLengths"}) {
                answers.add(desk.make(name, p));
            }
            answers.add(desk.make("distance", p, 0));
            answers.add(desk.make("cycleAt", p, 3, 1));
        }
    }

    private static void orders(Calls desk, List<Integer> answers) {
        answers.add(desk.make("leastCost"));
        answers.add(desk.make("undisputed"));
        for (int p = 0; p < desk.make("players"); p++) {
            answers.add(desk.make("orderAt", p));
        }
        for (int rule = 0; rule < 5; rule++) {
            answers.add(desk.make("winners", rule));
        }
    }

    private static void history(Calls desk, List<Integer> answers, int undone) {
        for (int i = 0; i < undone; i++) {
            answers.add(desk.make("undo"));
        }
        pairs(desk, answers);
    }

    /** The constructed tournament has the numbers as its scores. */
    private static void numbers(Calls desk, List<Integer> answers) {
        answers.add(desk.make("checkSequence"));
        desk.make("reset", 2);
        answers.add(desk.make("construct"));
        pairs(desk, answers);
        answers.add(desk.make("append", 0));
        answers.add(desk.make("clearSequence"));
    }

    /** With ten players a text has a fault by its form only; what it says is entered. */
    private static void characters(Calls desk, List<Integer> answers, String more) {
        desk.make("reset", 10);
        for (char character : more.toCharArray()) {
            answers.add(desk.make("type", character));
        }
        answers.add(desk.make("fault"));
        answers.add(desk.make("enter"));
        pairs(desk, answers);
        answers.add(desk.make("clearText"));
    }
}
