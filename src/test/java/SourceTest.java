import java.io.IOException;
import java.nio.file.Files;
import java.nio.file.Path;
import java.util.List;
import java.util.regex.Matcher;
import java.util.regex.Pattern;

/** The rules of LANGUAGE.md that a plain look at the lines of the class can tell. .ci/run starts it in the root. */
public final class SourceTest {
    private static final String[] NOT_THERE = {
        "^\\s*(package|import)\\b", "->", "::", "\\b(catch|try|finally|assert|synchronized|instanceof)\\b",
        "\\b(lambda|record|enum|interface|protected)\\b", "Exact\\(", "\\b(double|float|List|ArrayList|Integer)\\b",
        "\\b(System|Thread|Random|Arrays)\\b", "\"\\s*\\+|\\+\\s*\"", "\\bthrow e\\b", "while\\s*\\("
    };
    private static final Pattern MADE = Pattern.compile("\\bnew\\s+\\w+");

    public static void main(String[] args) throws IOException {
        Due due = new Due("SourceTest");
        List<String> lines = Files.readAllLines(Path.of("src/main/java/CrushLoad.java"));
        int longest = 0;
        int start = 0;
        for (int i = 0; i < lines.size(); i++) {
            String line = lines.get(i);
            String code = line.strip().startsWith("/*") || line.strip().startsWith("//") ? "" : line;
            for (String pattern : NOT_THERE) {
                due.is("line " + (i + 1) + " has " + pattern, Pattern.compile(pattern).matcher(code).find(), false);
            }
            Matcher made = MADE.matcher(code);
            boolean inCall = made.find() && !code.contains("final ") && !code.contains("throw new");
            due.is("line " + (i + 1) + " makes an object in a call", inCall, false);
            due.is("line " + (i + 1) + " has signs of 0 to 127 alone", line.chars().allMatch(c -> c < 128), true);
            if (line.matches("    (    )?\\S.*\\{")) {
                start = i;
            } else if (line.matches("    (    )?\\}")) {
                longest = Math.max(longest, line.startsWith("     ") ? i - start : 0);
            }
        }
        due.is("the longest method has at most 60 lines", longest <= 60, true);
        due.end();
    }
}
