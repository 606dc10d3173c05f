import java.util.ArrayList;
import java.util.List;
import java.util.regex.Matcher;
import java.util.regex.Pattern;

/**
 * Runs of calls told in words. Each begins with a new object; the answers that are due are given behind the calls,
 * as in the document's examples: "reset(1) = -1; reset(2) = 4; players() = 2". Beside calls a run may hold
 * '0>1;' (the characters are typed), [1 0 2] (the numbers are appended), "all = 1,-" (who beats whom: for each
 * player those whom this player beats) and "ones" (all weights are 1). MIN and MAX are the least and the greatest
 * int. Every answer, told or not, must also be the one of the plain retelling.
 */
final class Told {
    private static final int MOST_CALLS = 512;
    private static final Pattern STEP = Pattern.compile("'([^']*)'|\\[([\\d ]+)\\]|all = ([\\d,-]+)|(ones)"
        + "|(\\w+)\\(([^)]*)\\)(?: = (-?\\d+))?|[;\\s]+|(\\S+)");

    private final String what;
    private final Calls desk = Calls.ofDesk();
    private final Calls naive = Calls.ofNaive();
    private final List<Integer> answers = new ArrayList<>();

    private Told(String what) {
        this.what = what;
    }

    static void due(String what, String run) {
        Told told = new Told(what);
        told.follow(run);
        Check.holds(what + ": more than 512 calls", told.desk.made() <= MOST_CALLS);
    }

    /**
     * The calls of the run with one of them for the question mark: INVALID_ARGUMENT for each number outside the
     * range, and for those inside what the retelling answers, which must be no INVALID_ARGUMENT at both ends.
     */
    static void range(String what, String before, String call, int least, int most) {
        for (int outside : new int[] {Integer.MIN_VALUE, Integer.MIN_VALUE + least, least - 32, -10, least - 2,
            least - 1, most + 1, most + 2, most + 10, most + 32, most + 64, most + 256, most + 65536,
            Integer.MAX_VALUE - 1, Integer.MAX_VALUE}) {
            if (outside < least || outside > most) {
                due(what, before + "; " + call.replace("?", "" + outside) + " = -1");
            }
        }
        for (int inside = least; inside <= most; inside++) {
            due(what, before + "; " + call.replace("?", "" + inside));
        }
        taken(what, before, call.replace("?", "" + least));
        taken(what, before, call.replace("?", "" + most));
    }

    private static void taken(String what, String before, String call) {
        Told told = new Told(what);
        told.follow(before);
        told.answers.clear();
        told.follow(call);
        Check.holds(what + ": " + call + " is in the range", told.answers.get(0) != -1);
    }

    /** The steps to the tournament in which each player beats the told ones: "12,2,0" is reset(3); setResult(2, 0). */
    static String of(String all) {
        String[] beaten = all.split(",");
        StringBuilder steps = new StringBuilder("reset(" + beaten.length + ")");
        for (int a = 0; a < beaten.length; a++) {
            for (int b = 0; b < a; b++) {
                boolean wins = beaten[a].indexOf('0' + b) >= 0;
                if (wins == beaten[b].indexOf('0' + a) >= 0) {
                    throw new IllegalArgumentException("both or none of " + b + " and " + a + " win in " + all);
                }
                steps.append(wins ? "; setResult(" + a + ", " + b + ")" : "");
            }
        }
        return steps.toString();
    }

    /** Each player beats all players with higher numbers: "12,2,-" for three. */
    static String initial(int n) {
        StringBuilder all = new StringBuilder();
        for (int a = 0; a < n - 1; a++) {
            all.append("0123456789", a + 1, n).append(',');
        }
        return all.append('-').toString();
    }

    /** Each of the odd number of players beats the next (n - 1) / 2 ones in the circle. */
    static String circle(int n) {
        StringBuilder all = new StringBuilder();
        for (int a = 0; a < n; a++) {
            for (int step = 1; step <= (n - 1) / 2; step++) {
                all.append((a + step) % n);
            }
            all.append(a < n - 1 ? "," : "");
        }
        return all.toString();
    }

    /** Each player beats the next one, and otherwise the one with the higher number beats the other one. */
    static String ladder(int n) {
        StringBuilder all = new StringBuilder();
        for (int a = 0; a < n; a++) {
            all.append("0123456789", 0, Math.max(0, a - 1)).append(a < n - 1 ? "" + (a + 1) : "");
            all.append(a < n - 1 ? "," : "");
        }
        return all.toString();
    }

    private void follow(String run) {
        Matcher step = STEP.matcher(run);
        while (step.find()) {
            if (step.group(1) != null) {
                type(step.group(1));
            } else if (step.group(2) != null) {
                append(step.group(2));
            } else if (step.group(3) != null) {
                all(step.group(3));
            } else if (step.group(4) != null) {
                ones();
            } else if (step.group(5) != null) {
                call(step.group(5), step.group(6), step.group(7));
            } else if (step.group(8) != null) {
                throw new IllegalArgumentException("not told well: " + step.group(8) + " in " + run);
            }
        }
    }

    private int make(String name, int... arguments) {
        int answer = desk.make(name, arguments);
        String call = name + java.util.Arrays.toString(arguments);
        Check.due(what + ": call " + desk.made() + " " + call + ", retold", answer, naive.make(name, arguments));
        answers.add(answer);
        return answer;
    }

    private void type(String text) {
        for (char character : text.toCharArray()) {
            make("type", character);
        }
    }

    private void append(String numbers) {
        for (String number : numbers.split(" ")) {
            make("append", Integer.parseInt(number));
        }
    }

    private void call(String name, String arguments, String want) {
        String[] words = arguments.isEmpty() ? new String[0] : arguments.split(", ");
        int[] given = new int[words.length];
        for (int i = 0; i < words.length; i++) {
            given[i] = number(words[i]);
        }
        int answer = make(name, given);
        if (want != null) {
            Check.due(what + ": call " + desk.made() + " " + name + "(" + arguments + ")", answer, number(want));
        }
    }

    private static int number(String word) {
        return word.equals("MIN") ? Integer.MIN_VALUE : word.equals("MAX") ? Integer.MAX_VALUE : Integer.parseInt(word);
    }

    private void all(String want) {
        String[] beaten = want.split(",");
        Check.due(what + ": players", make("players"), beaten.length);
        for (int a = 0; a < beaten.length; a++) {
            for (int b = 0; b < beaten.length; b++) {
                int due = beaten[a].indexOf('0' + b) >= 0 ? 1 : 0;
                Check.due(what + ": " + want + ": beats(" + a + ", " + b + ")", make("beats", a, b), due);
            }
        }
    }

    private void ones() {
        int n = make("players");
        for (int a = 0; a < n; a++) {
            for (int b = 0; b < n; b++) {
                if (a != b) {
                    Check.due(what + ": weight(" + a + ", " + b + ")", make("weight", a, b), 1);
                }
            }
        }
    }
}
