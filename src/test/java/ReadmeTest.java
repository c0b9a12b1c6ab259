import java.io.IOException;
import java.nio.file.Files;
import java.nio.file.Path;
import java.util.HashMap;
import java.util.Map;
import java.util.regex.Matcher;
import java.util.regex.Pattern;

/**
 * The examples of README.md answer what their comments say. Run from the project's folder. A line's comment begins
 * with the answer, "true: ..", "41", "throws E: ..", or "done" where there is none.
 */
public final class ReadmeTest {
    private static final int LEAST_EXAMPLES = 3;
    private static final Pattern LINE =
            Pattern.compile("(?:int (\\w+) = )?desk\\.(\\w+\\(.*\\));\\s+// ([^:]+)(?::.*)?");

    private TaskDesk desk;
    private final Map<String, String> names = new HashMap<>();

    public static void main(String[] args) throws IOException {
        ReadmeTest example = null;
        int examples = 0;
        for (String line : Files.readAllLines(Path.of("README.md"))) {
            if (line.equals("```java")) {
                example = new ReadmeTest();
                examples++;
            } else if (line.equals("```")) {
                example = null;
            } else if (example != null) {
                example.does(line);
            }
        }
        Check.due("there are examples", true, examples >= LEAST_EXAMPLES);
        Check.end();
    }

    private void does(String line) {
        if (line.startsWith("TaskDesk desk = new TaskDesk();")) {
            desk = new TaskDesk();
            return;
        }
        Matcher parts = LINE.matcher(line);
        if (desk == null || !parts.matches()) {
            Check.tell("not a line of an example: " + line);
            return;
        }
        String call = parts.group(2);
        for (Map.Entry<String, String> name : names.entrySet()) {
            call = call.replaceAll("(?<=[( ])" + name.getKey() + "(?=[,)])", name.getValue());
        }
        String got = Run.answer(desk, call);
        String want = parts.group(3).trim().replace("throws ", "throws.");
        if (!got.equals(want)) {
            Check.tell(line.trim() + " -- answered " + got);
        }
        if (parts.group(1) != null) {
            names.put(parts.group(1), got);
        }
    }
}
