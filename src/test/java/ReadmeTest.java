import java.io.IOException;
import java.lang.reflect.Field;
import java.lang.reflect.Method;
import java.lang.reflect.Modifier;
import java.nio.file.Files;
import java.nio.file.Path;
import java.util.Comparator;
import java.util.HashMap;
import java.util.List;
import java.util.Map;
import java.util.Random;
import java.util.Set;
import java.util.TreeSet;
import java.util.regex.Matcher;
import java.util.regex.Pattern;
import java.util.stream.Stream;

/** What README.md says: its program and what it prints, its calls with their answers, and its tables. */
public final class ReadmeTest {
    private static final Path SOURCE = Path.of("src/main/java/TournamentDesk.java");
    private static final Pattern ANSWER = Pattern.compile("desk\\.(\\w+)\\(([^)]*)\\); +// (-?\\d+):");
    private static final Pattern CONSTANT = Pattern.compile("(?m)^\\| `([A-Z_]+)` \\| (-?\\d+) \\|");
    private static final Pattern ROW = Pattern.compile("(?m)^\\| `(\\w+)\\(([^)]*)\\)` \\| [^|]+ \\| ([^|]*)\\|$");
    private static final Pattern TEST = Pattern.compile("(?m)^\\| `(\\w+Test)` \\|");
    private static final int RUNS = 200;

    private static String readme;

    public static void main(String[] args) throws IOException, InterruptedException, IllegalAccessException {
        readme = Files.readString(Path.of("README.md"));
        program();
        callsWithAnswers();
        constants();
        rowsOfCalls();
        tests();
        Check.end();
    }

    /** The text of the page's block of this kind, counted from 0. */
    private static String block(String kind, int number) {
        Matcher block = Pattern.compile("(?s)```" + kind + "\n(.*?)```").matcher(readme);
        for (int i = 0; i <= number; i++) {
            Check.holds("README.md has a block " + i + " of " + kind, block.find());
        }
        return block.group(1);
    }

    // ---- the program

    /** Compiles and runs the program by the page's own commands. */
    private static void program() throws IOException, InterruptedException {
        Path folder = Files.createTempDirectory("readme");
        Files.createDirectories(folder.resolve(SOURCE).getParent());
        Files.copy(SOURCE, folder.resolve(SOURCE));
        Files.writeString(folder.resolve("FirstSteps.java"), block("java", 0));
        String printed = "";
        for (String command : block("sh", 0).split("\n")) {
            printed = printedBy(command, folder);
        }
        System.out.print(printed);
        Check.holds("the program prints what the page says", printed.equals(block("text", 0)));
        try (Stream<Path> all = Files.walk(folder)) {
            for (Path path : all.sorted(Comparator.reverseOrder()).toList()) {
                Files.delete(path);
            }
        }
    }

    private static String printedBy(String command, Path folder) throws IOException, InterruptedException {
        Process process = new ProcessBuilder(command.split(" ")).directory(folder.toFile())
            .redirectErrorStream(true).start();
        String printed = new String(process.getInputStream().readAllBytes());
        Check.due(command, process.waitFor(), 0);
        return printed.replace(System.lineSeparator(), "\n");
    }

    // ---- calls with answers

    private static void callsWithAnswers() {
        Calls desk = Calls.ofDesk();
        String[] lines = block("java", 1).split("\n");
        for (int i = 1; i < lines.length; i++) {
            Matcher told = ANSWER.matcher(lines[i]);
            Check.holds("a call with its answer: " + lines[i], told.lookingAt());
            String arguments = told.group(2).replace("TournamentDesk.KINGS", "" + TournamentDesk.KINGS);
            int[] numbers = arguments.isEmpty() ? new int[0]
                : Stream.of(arguments.split(", ")).mapToInt(Integer::parseInt).toArray();
            Check.due(lines[i], desk.make(told.group(1), numbers), Integer.parseInt(told.group(3)));
        }
        Check.holds("calls were made", desk.made() > 10);
    }

    // ---- constants and calls

    private static void constants() throws IllegalAccessException {
        Map<String, Integer> told = new HashMap<>();
        CONSTANT.matcher(readme).results().forEach(row -> told.put(row.group(1), Integer.valueOf(row.group(2))));
        Map<String, Integer> open = new HashMap<>();
        for (Field field : TournamentDesk.class.getDeclaredFields()) {
            if (Modifier.isPublic(field.getModifiers())) {
                open.put(field.getName(), field.getInt(null));
            }
        }
        Check.holds("constants " + told, told.equals(open));
    }

    /** Each method stands in one row, with as many arguments as it takes and just the errors that it answers with. */
    private static void rowsOfCalls() {
        Map<String, Set<String>> answered = errorsAnswered();
        Set<String> told = new TreeSet<>();
        Matcher row = ROW.matcher(readme);
        while (row.find()) {
            String name = row.group(1);
            int arguments = row.group(2).isEmpty() ? 0 : row.group(2).split(", ").length;
            Check.holds("once: " + name, told.add(name + "/" + arguments));
            Set<String> errors = new TreeSet<>();
            Pattern.compile("`([A-Z_]+)`").matcher(row.group(3)).results().forEach(error -> errors.add(error.group(1)));
            Check.holds("errors of " + name + ": " + errors + ", answered: " + answered.get(name),
                errors.equals(answered.get(name)));
        }
        Set<String> open = new TreeSet<>();
        for (Method method : TournamentDesk.class.getDeclaredMethods()) {
            if (Modifier.isPublic(method.getModifiers())) {
                open.add(method.getName() + "/" + method.getParameterCount());
            }
        }
        Check.holds("calls " + told, told.equals(open));
    }

    /** The errors that each method answers with in many runs of calls. */
    private static Map<String, Set<String>> errorsAnswered() {
        List<String> errors = List.of("", "INVALID_ARGUMENT", "NOT_POSSIBLE", "LIMIT_REACHED", "NOT_FOUND");
        Map<String, Set<String>> answered = new HashMap<>();
        Random random = new Random(9);
        for (int run = 0; run < RUNS; run++) {
            Calls desk = Calls.ofDesk();
            while (desk.made() < 512) {
                String name = Pair.NAMES[random.nextInt(Pair.NAMES.length)];
                int often = name.equals("type") ? 30 : name.equals("append") ? 12 : 1;
                for (int i = 0; i < often && desk.made() < 512; i++) {
                    int first = name.equals("type") ? 30 + random.nextInt(40) : random.nextInt(12) - 1;
                    int answer = desk.make(name, first, random.nextInt(6), random.nextInt(6));
                    Set<String> seen = answered.computeIfAbsent(name, n -> new TreeSet<>());
                    if (answer < 0) {
                        seen.add(errors.get(-answer));
                    }
                }
            }
        }
        return answered;
    }

    // ---- tests

    private static void tests() throws IOException {
        Set<String> told = new TreeSet<>();
        TEST.matcher(readme).results().forEach(row -> told.add(row.group(1)));
        try (Stream<Path> files = Files.list(Path.of("src/test/java"))) {
            Set<String> own = new TreeSet<>();
            files.map(file -> file.getFileName().toString()).filter(name -> name.endsWith("Test.java"))
                .forEach(name -> own.add(name.replace(".java", "")));
            Check.holds("tests " + told + ", there are " + own, told.equals(own));
        }
    }
}
