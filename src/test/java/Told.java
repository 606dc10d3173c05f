import java.util.ArrayList;
import java.util.Arrays;
import java.util.List;
import java.util.regex.Matcher;
import java.util.regex.Pattern;

/**
 * Runs of calls told in words. Each begins with a new object; the answers that are due are given behind the calls,
 * as in the document's examples: "reset(1) = -1; reset(2) = 4; players() = 2". Beside calls a run may hold
 * '0>1;' (the characters are typed), [1 0 2] (the numbers are appended), "all = 1,-" (who beats whom: for each
 * player those whom this player beats) and "ones" (all weights are 1). MIN and MAX are the least and the greatest
 * int. Every answer, told or not, must also be the one of the plain retelling.
 */
final class Told {
    private static final int MOST_CALLS = 512;
    private static final Pattern STEP = Pattern.compile("'([^']*)'|\\[([\\d ]+)\\]|all = ([\\d,-]+)|(ones)"
        + "|(\\w+)\\(([^)]*)\\)(?: = (-?\\d+))?|[;\\s]+|(\\S+)");

    /** A call with the answer that is due, or null if none is told; "ones" stands for all weights being 1. */
    record Step(String name, int[] arguments, Integer due) {
        @Override
        public String toString() {
            return name + Arrays.toString(arguments);
        }
    }

    private final String what;
    private final Calls desk = Calls.ofDesk();
    private final Calls naive = Calls.ofNaive();
    private final List<Integer> answers = new ArrayList<>();

    private Told(String what) {
        this.what = what;
    }

    static void due(String what, String run) {
        Told told = new Told(what);
        told.follow(run);
        Check.holds(what + ": more than 512 calls", told.desk.made() <= MOST_CALLS);
    }

    /**
     * The calls of the run with one of them for the question mark: INVALID_ARGUMENT for each number outside the
     * range, and for those inside what the retelling answers, which must be no INVALID_ARGUMENT at both ends.
     */
    static void range(String what, String before, String call, int least, int most) {
        for (int outside : new int[] {Integer.MIN_VALUE, Integer.MIN_VALUE + least, least - 32, -10, least - 2,
            least - 1, most + 1, most + 2, most + 10, most + 32, most + 64, most + 256, most + 65536,
            Integer.MAX_VALUE - 1, Integer.MAX_VALUE}) {
            if (outside < least || outside > most) {
                due(what, before + "; " + call.replace("?", "" + outside) + " = -1");
            }
        }
        for (int inside = least; inside <= most; inside++) {
            due(what, before + "; " + call.replace("?", "" + inside));
        }
        taken(what, before, call.replace("?", "" + least));
        taken(what, before, call.replace("?", "" + most));
    }

    private static void taken(String what, String before, String call) {
        Told told = new Told(what);
        told.follow(before);
        told.answers.clear();
        told.follow(call);
        Check.holds(what + ": " + call + " is in the range", told.answers.get(0) != -1);
    }

    /** The steps to the tournament in which each player beats the told ones: "12,2,0" is reset(3); setResult(2, 0). */
    static String of(String all) {
        String[] beaten = all.split(",");
        StringBuilder steps = new StringBuilder("reset(" + beaten.length + ")");
        for (int a = 0; a < beaten.length; a++) {
            for (int b = 0; b < a; b++) {
                boolean wins = beaten[a].indexOf('0' + b) >= 0;
                if (wins == beaten[b].indexOf('0' + a) >= 0) {
                    throw new IllegalArgumentException("both or none of " + b + " and " + a + " win in " + all);
                }
                steps.append(wins ? "; setResult(" + a + ", " + b + ")" : "");
            }
        }
        return steps.toString();
    }

    /** Each player beats all players with higher numbers: "12,2,-" for three. */
    static String initial(int n) {
        StringBuilder all = new StringBuilder();
        for (int a = 0; a < n - 1; a++) {
            all.append("0123456789", a + 1, n).append(',');
        }
        return all.append('-').toString();
    }

    /** Each of the odd number of players beats the next (n - 1) / 2 ones in the circle. */
    static String circle(int n) {
        StringBuilder all = new StringBuilder();
        for (int a = 0; a < n; a++) {
            for (int step = 1; step <= (n - 1) / 2; step++) {
                all.append((a + step) % n);
            }
            all.append(a < n - 1 ? "," : "");
        }
        return all.toString();
    }

    /** Each player beats the next one, and otherwise the one with the higher number beats the other one. */
    static String ladder(int n) {
        StringBuilder all = new StringBuilder();
        for (int a = 0; a < n; a++) {
            all.append("0123456789", 0, Math.max(0, a - 1)).append(a < n - 1 ? "" + (a + 1) : "");
            all.append(a < n - 1 ? "," : "");
        }
        return all.toString();
    }

    static List<Step> steps(String run) {
        List<Step> steps = new ArrayList<>();
        Matcher step = STEP.matcher(run);
        while (step.find()) {
            if (step.group(1) != null) {
                step.group(1).chars().forEach(character -> add(steps, null, "type", character));
            } else if (step.group(2) != null) {
                Arrays.stream(step.group(2).split(" ")).forEach(n -> add(steps, null, "append", number(n)));
            } else if (step.group(3) != null) {
                addAll(steps, step.group(3).split(","));
            } else if (step.group(4) != null) {
                add(steps, null, "ones");
            } else if (step.group(5) != null) {
                Integer due = step.group(7) == null ? null : Integer.valueOf(step.group(7));
                add(steps, due, step.group(5), numbers(step.group(6)));
            } else if (step.group(8) != null) {
                throw new IllegalArgumentException("not told well: " + step.group(8) + " in " + run);
            }
        }
        return steps;
    }

    private static void add(List<Step> steps, Integer due, String name, int... arguments) {
        steps.add(new Step(name, arguments, due));
    }

    private static void addAll(List<Step> steps, String[] beaten) {
        add(steps, beaten.length, "players");
        for (int a = 0; a < beaten.length; a++) {
            for (int b = 0; b < beaten.length; b++) {
                add(steps, beaten[a].indexOf('0' + b) >= 0 ? 1 : 0, "beats", a, b);
            }
        }
    }

    private static int[] numbers(String arguments) {
        String[] words = arguments.isEmpty() ? new String[0] : arguments.split(", ");
        return Arrays.stream(words).mapToInt(Told::number).toArray();
    }

    private static int number(String word) {
        return word.equals("MIN") ? Integer.MIN_VALUE : word.equals("MAX") ? Integer.MAX_VALUE : Integer.parseInt(word);
    }

    private void follow(String run) {
        for (Step step : steps(run)) {
            if (step.name.equals("ones")) {
                ones();
            } else {
                make(step);
            }
        }
    }

    private int make(Step step) {
        int answer = desk.make(step.name, step.arguments);
        String call = what + ": call " + desk.made() + " " + step;
        if (step.due != null) {
            Check.due(call, answer, step.due);
        }
        Check.due(call + ", retold", answer, naive.make(step.name, step.arguments));
        answers.add(answer);
        return answer;
    }

    private void ones() {
        int n = make(new Step("players", new int[0], null));
        for (int a = 0; a < n; a++) {
            for (int b = 0; b < n; b++) {
                if (a != b) {
                    make(new Step("weight", new int[] {a, b}, 1));
                }
            }
        }
    }
}
