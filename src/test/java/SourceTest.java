import java.io.IOException;
import java.nio.file.Files;
import java.nio.file.Path;
import java.util.List;
import java.util.regex.Matcher;
import java.util.regex.Pattern;

/** Those rules of LANGUAGE.md that can be seen in the text of the class. Run from the project's folder. */
public final class SourceTest {
    private static final String[] NOT_THERE = {
        "->", "::", "\\btry\\b", "\\bcatch\\b", "\\bfinally\\b", "\\bsynchronized\\b", "\\bassert\\b",
        "Exact\\b", "\\bpackage\\b", "\\bprotected\\b", "\\bSystem\\.", "\\bRandom\\b", "\\bThread\\b",
        "\\bstatic (int|long|boolean|char|String)\\b", "\\bstatic \\{", "\\binstanceof\\b"
    };

    public static void main(String[] args) throws IOException {
        List<String> lines = Files.readAllLines(Path.of("src/main/java/TaskDesk.java"));
        StringBuilder code = new StringBuilder();
        for (String line : lines) {
            code.append(line.replaceAll("//.*|/\\*\\*.*\\*/|\"[^\"]*\"", "")).append('\n');
        }
        String text = code.toString();
        for (String part : NOT_THERE) {
            Check.due("times that " + part + " stands there", 0, times(part, text));
        }
        Check.due("imports", 1, times("(?m)^import ", text));
        Check.due("import of NoSuchElementException", 1, times("import java\\.util\\.NoSuchElementException;", text));
        Check.due("at most twelve classes", true, times("\\bclass \\w+", text) <= 12);
        shortMethods(lines);
        nothingMadeByCalls(text);
        Check.end();
    }

    private static int times(String part, String text) {
        int times = 0;
        Matcher matcher = Pattern.compile(part).matcher(text);
        while (matcher.find()) {
            times++;
        }
        return times;
    }

    /** A method starts where a line of its depth ends in a brace, and ends at the brace of the same depth. */
    private static void shortMethods(List<String> lines) {
        for (String margin : new String[] {"    ", "        "}) {
            int start = -1;
            for (int i = 0; i < lines.size(); i++) {
                String line = lines.get(i);
                boolean opens = line.startsWith(margin) && line.length() > margin.length()
                        && line.charAt(margin.length()) != ' ' && line.contains("(");
                if (opens) {
                    start = i;
                }
                if (line.equals(margin + "}") && start >= 0) {
                    Check.due("lines of " + lines.get(start).trim() + " are few", true, i - start < 60);
                    start = -1;
                }
            }
        }
    }

    /** Behind the constructor of the desk, only constructors of the classes inside and throws make anything. */
    private static void nothingMadeByCalls(String text) {
        int from = text.indexOf("public int spawn()");
        int to = text.indexOf("private static final class");
        String calls = text.substring(from, to);
        Check.due("what calls make beside what they throw", times("throw new ", calls), times("\\bnew ", calls));
    }
}
