import java.io.IOException;
import java.nio.file.Files;
import java.nio.file.Path;
import java.util.HashSet;
import java.util.Map;
import java.util.Set;
import java.util.TreeMap;
import java.util.TreeSet;
import java.util.regex.Matcher;
import java.util.regex.Pattern;

/** What of LANGUAGE.md can be seen in the source's words: rules 2, 3, 4, 6, 8, 9, 10, 11 and 13. */
public final class LanguageTest {
    private static final String[] FORBIDDEN = {
        "throw", "throws", "try", "catch", "synchronized", "assert", "package", "native", "volatile", "hashCode",
        "System.out", "currentTimeMillis", "nanoTime", "Random", "Thread", "protected", "Exact"
    };
    private static final Pattern LOOP = Pattern.compile("for \\(int (\\w+) = [^;]+; \\1 <=? [^;]+; \\1(\\+\\+| \\+= [A-Z_]+)\\) \\{");
    private static final Pattern CALL = Pattern.compile("\\b(\\w+)\\(");
    private static final int DEEPEST = 8;
    private static final Pattern METHOD_START =
        Pattern.compile("^( {4}| {8})(?!if |for |switch |while )[a-zA-Z].*\\) \\{$");

    public static void main(String[] args) throws IOException {
        String source = Files.readString(Path.of("src/main/java/TournamentDesk.java"));
        String code = withoutComments(source);
        for (String word : FORBIDDEN) {
            Check.holds("no " + word, !Pattern.compile("\\b" + Pattern.quote(word)).matcher(code).find());
        }
        Check.holds("no lambda, no method reference", !code.contains("->") && !code.contains("::"));
        Check.holds("no text joined by +", !Pattern.compile("\" *\\+|\\+ *\"").matcher(code).find());
        Check.holds("no static initialiser block", !Pattern.compile("static\\s*\\{").matcher(code).find());
        Check.holds("signs are ASCII", source.chars().allMatch(c -> c < 127));
        Check.holds("one top class", Pattern.compile("(?m)^[a-z].*class ").matcher(code).results().count() == 1);
        onlyLibrary(code);
        shortMethods(code);
        boundLoops(code);
        calls(code);
        Check.end();
    }

    private static String withoutComments(String source) {
        return source.replaceAll("(?s)/\\*.*?\\*/", "").replaceAll("//[^\n]*", "");
    }

    /** Calls on a class by its name: the listed library, or the classes inside. */
    private static void onlyLibrary(String code) {
        Matcher call = Pattern.compile("\\b([A-Z][a-z]\\w*)\\.(\\w+)").matcher(code);
        while (call.find()) {
            String name = call.group(1) + "." + call.group(2);
            boolean own = code.contains("class " + call.group(1) + " ");
            boolean listed = name.matches("Math\\.(min|max|floorMod)|Integer\\.bitCount|System\\.arraycopy");
            Check.holds("library " + name, own || listed);
        }
    }

    private static boolean startsMethod(String line) {
        return METHOD_START.matcher(line).matches() && !line.contains("class ");
    }

    /** The number of lines from the method's first one to the one before its end. */
    private static int lengthOf(String[] lines, int start) {
        String end = lines[start].startsWith("        ") ? "        }" : "    }";
        int length = 1;
        while (start + length < lines.length && !lines[start + length].equals(end)) {
            length++;
        }
        return length;
    }

    private static void shortMethods(String code) {
        String[] lines = code.split("\n");
        int methods = 0;
        for (int i = 0; i < lines.length; i++) {
            if (startsMethod(lines[i])) {
                methods++;
                Check.holds("at most 60 lines: " + lines[i].trim(), lengthOf(lines, i) < 60);
            }
        }
        Check.holds("methods seen: " + methods, methods > 100);
    }

    /** Rule 9: each loop counts up to a bound that stands in its first line. */
    private static void boundLoops(String code) {
        Check.holds("no while, no do", !Pattern.compile("\\b(while|do)\\b").matcher(code).find());
        Matcher start = Pattern.compile("\\bfor \\([^\n]*").matcher(code);
        while (start.find()) {
            Check.holds("a counter and a bound: " + start.group(), LOOP.matcher(start.group()).matches());
        }
    }

    /** Rules 8 and 11: only private static methods call themselves; all other calls go at most eight deep. */
    private static void calls(String code) {
        Map<String, Set<String>> calls = callsByName(code);
        Set<String> recursive = new TreeSet<>();
        for (String name : calls.keySet()) {
            if (calls.get(name).remove(name)) {
                recursive.add(name);
            }
        }
        Check.holds("calling themselves: " + recursive, recursive.equals(Set.of("assign", "extend", "topsAbove")));
        for (String name : recursive) {
            Check.holds("static: " + name, Pattern.compile("private static \\w+ " + name + "\\(").matcher(code).find());
        }
        for (String name : calls.keySet()) {
            Check.holds("at most eight deep: " + name, depthOf(calls, name, new HashSet<>()) <= DEEPEST);
        }
    }

    /** For each method's name the names of all that is called by those of this name, in whichever class they are. */
    private static Map<String, Set<String>> callsByName(String code) {
        Map<String, Set<String>> calls = new TreeMap<>();
        String[] lines = code.split("\n");
        for (int i = 0; i < lines.length; i++) {
            if (startsMethod(lines[i])) {
                Matcher declared = CALL.matcher(lines[i]);
                Check.holds("a name: " + lines[i], declared.find());
                Set<String> called = calls.computeIfAbsent(declared.group(1), name -> new TreeSet<>());
                for (int k = 1; k < lengthOf(lines, i); k++) {
                    CALL.matcher(lines[i + k]).results().forEach(call -> called.add(call.group(1)));
                }
            }
        }
        return calls;
    }

    /** More than eight if a call leads back to one that stands open. */
    private static int depthOf(Map<String, Set<String>> calls, String name, Set<String> open) {
        if (!calls.containsKey(name)) {
            return 0;
        }
        if (!open.add(name)) {
            return DEEPEST + 1;
        }
        int depth = 0;
        for (String called : calls.get(name)) {
            depth = Math.max(depth, depthOf(calls, called, open));
        }
        open.remove(name);
        return depth + 1;
    }
}
