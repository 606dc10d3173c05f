import java.io.IOException;
import java.nio.file.Files;
import java.nio.file.Path;
import java.util.regex.Matcher;
import java.util.regex.Pattern;

/** What of LANGUAGE.md can be seen in the source's words: rules 2, 3, 4, 6, 10, 11 and 13. */
public final class LanguageTest {
    private static final String[] FORBIDDEN = {
        "throw", "throws", "try", "catch", "synchronized", "assert", "package", "native", "volatile", "hashCode",
        "System.out", "currentTimeMillis", "nanoTime", "Random", "Thread", "protected", "Exact"
    };
    private static final Pattern METHOD_START = Pattern.compile("^( {4}| {8})(?! )[a-zA-Z].*\\) \\{$");

    public static void main(String[] args) throws IOException {
        String source = Files.readString(Path.of("src/main/java/TournamentDesk.java"));
        String code = withoutComments(source);
        for (String word : FORBIDDEN) {
            Check.holds("no " + word, !Pattern.compile("\\b" + Pattern.quote(word)).matcher(code).find());
        }
        Check.holds("no lambda, no method reference", !code.contains("->") && !code.contains("::"));
        Check.holds("no text joined by +", !Pattern.compile("\" *\\+|\\+ *\"").matcher(code).find());
        Check.holds("signs are ASCII", source.chars().allMatch(c -> c < 127));
        Check.holds("one top class", Pattern.compile("(?m)^[a-z].*class ").matcher(code).results().count() == 1);
        onlyLibrary(code);
        shortMethods(code);
        Check.end();
    }

    private static String withoutComments(String source) {
        return source.replaceAll("(?s)/\\*.*?\\*/", "").replaceAll("//[^\n]*", "");
    }

    /** Calls on a class by its name: the listed library, or the classes inside. */
    private static void onlyLibrary(String code) {
        Matcher call = Pattern.compile("\\b([A-Z][a-z]\\w*)\\.(\\w+)").matcher(code);
        while (call.find()) {
            String name = call.group(1) + "." + call.group(2);
            boolean own = code.contains("class " + call.group(1) + " ");
            boolean listed = name.matches("Math\\.(min|max|floorMod)|Integer\\.(bitCount|MAX_VALUE)|System\\.arraycopy");
            Check.holds("library " + name, own || listed);
        }
    }

    private static void shortMethods(String code) {
        String[] lines = code.split("\n");
        int methods = 0;
        for (int i = 0; i < lines.length; i++) {
            if (METHOD_START.matcher(lines[i]).matches() && !lines[i].contains("class ")) {
                String end = lines[i].startsWith("        ") ? "        }" : "    }";
                int length = 1;
                while (i + length < lines.length && !lines[i + length].equals(end)) {
                    length++;
                }
                methods++;
                Check.holds("at most 60 lines: " + lines[i].trim(), length < 60);
            }
        }
        Check.holds("methods seen: " + methods, methods > 100);
    }
}
