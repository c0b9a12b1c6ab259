import java.io.IOException;
import java.lang.reflect.Field;
import java.lang.reflect.Method;
import java.lang.reflect.Modifier;
import java.nio.file.Files;
import java.nio.file.Path;
import java.util.ArrayList;
import java.util.HashMap;
import java.util.List;
import java.util.Map;
import java.util.regex.Matcher;
import java.util.regex.Pattern;

/** Those rules of LANGUAGE.md that can be seen in the text of the class. Run from the project's folder. */
public final class SourceTest {
    private static final String[] NOT_THERE = {
        "->", "::", "\\btry\\b", "\\bcatch\\b", "\\bfinally\\b", "\\bsynchronized\\b", "\\bassert\\b",
        "Exact\\b", "\\bpackage\\b", "\\bprotected\\b", "\\bSystem\\.", "\\bRandom\\b", "\\bThread\\b",
        "\\bstatic (int|long|boolean|char|String)\\b", "\\bstatic \\{", "\\binstanceof\\b"
    };

    private static final int MOST_FIELDS = 20;
    private static final int MOST_PARAMETERS = 7;
    private static final int DEEPEST_CALL = 8;

    public static void main(String[] args) throws IOException {
        List<String> lines = Files.readAllLines(Path.of("src/main/java/TaskDesk.java"));
        StringBuilder code = new StringBuilder();
        for (String line : lines) {
            code.append(line.replaceAll("//.*|/\\*\\*.*\\*/|\"[^\"]*\"", "")).append('\n');
        }
        String text = code.toString();
        for (String part : NOT_THERE) {
            Check.due("times that " + part + " stands there", 0, times(part, text));
        }
        Check.due("imports", 1, times("(?m)^import ", text));
        Check.due("import of NoSuchElementException", 1, times("import java\\.util\\.NoSuchElementException;", text));
        Check.due("at most twelve classes", true, times("\\bclass \\w+", text) <= 12);
        shortMethods(lines);
        nothingMadeByCalls(text);
        fewFieldsAndParameters(TaskDesk.class);
        for (Class<?> inside : TaskDesk.class.getDeclaredClasses()) {
            fewFieldsAndParameters(inside);
        }
        Map<String, List<String>> calls = callsOfMethods(lines);
        for (String method : calls.keySet()) {
            Check.due("calls under " + method + " are not deep", true, depth(method, calls, 0) <= DEEPEST_CALL);
        }
        Check.end();
    }

    private static int times(String part, String text) {
        int times = 0;
        Matcher matcher = Pattern.compile(part).matcher(text);
        while (matcher.find()) {
            times++;
        }
        return times;
    }

    /** A method starts where a line of its depth ends in a brace, and ends at the brace of the same depth. */
    private static void shortMethods(List<String> lines) {
        for (String margin : new String[] {"    ", "        "}) {
            int start = -1;
            for (int i = 0; i < lines.size(); i++) {
                String line = lines.get(i);
                boolean opens = line.startsWith(margin) && line.length() > margin.length()
                        && line.charAt(margin.length()) != ' ' && line.contains("(");
                if (opens) {
                    start = i;
                }
                if (line.equals(margin + "}") && start >= 0) {
                    Check.due("lines of " + lines.get(start).trim() + " are few", true, i - start < 60);
                    start = -1;
                }
            }
        }
    }

    /** Behind the constructor of the desk, only constructors of the classes inside and throws make anything. */
    private static void nothingMadeByCalls(String text) {
        int from = text.indexOf("public int spawn()");
        int to = text.indexOf("private static final class");
        String calls = text.substring(from, to);
        Check.due("what calls make beside what they throw", times("throw new ", calls), times("\\bnew ", calls));
    }

    private static void fewFieldsAndParameters(Class<?> of) {
        int fields = 0;
        for (Field field : of.getDeclaredFields()) {
            boolean constant = Modifier.isStatic(field.getModifiers());
            fields += constant ? 0 : 1;
            boolean plain = field.getType() == int.class || field.getType() == long.class;
            boolean fixed = Modifier.isFinal(field.getModifiers()) && plain;
            Check.due(of + " has a constant " + field.getName() + ", final and a number", true, fixed || !constant);
        }
        Check.due("fields of " + of + " are few", true, fields <= MOST_FIELDS);
        for (Method method : of.getDeclaredMethods()) {
            Check.due("parameters of " + method + " are few", true, method.getParameterCount() <= MOST_PARAMETERS);
        }
    }

    /** What each method calls, by names alone: methods of one name are taken for one. */
    private static Map<String, List<String>> callsOfMethods(List<String> lines) {
        Pattern head = Pattern.compile(" {4,8}(?:\\w+ )+(\\w+)\\(.*");
        Map<String, List<String>> bodies = new HashMap<>();
        String method = "";
        for (String line : lines) {
            boolean code = line.startsWith(" ") && !line.contains("//") && !line.contains("throw new");
            Matcher matcher = head.matcher(line);
            if (code && matcher.matches() && !line.contains(";") && !line.contains("else")) {
                method = matcher.group(1);
                bodies.putIfAbsent(method, new ArrayList<>());
            } else if (code) {
                bodies.computeIfAbsent(method, name -> new ArrayList<>()).add(line);
            }
        }
        Map<String, List<String>> calls = new HashMap<>();
        for (String caller : bodies.keySet()) {
            List<String> called = new ArrayList<>();
            for (String name : bodies.keySet()) {
                if (!name.isEmpty() && times("\\b" + name + "\\(", String.join("\n", bodies.get(caller))) > 0) {
                    called.add(name);
                }
            }
            calls.put(caller, called);
        }
        Check.due("methods were found in the text", true, calls.size() > 60);
        return calls;
    }

    /** How many calls stand open at once below this one and with it; no method may come to itself again. */
    private static int depth(String method, Map<String, List<String>> calls, int above) {
        int deepest = 0;
        if (above <= DEEPEST_CALL) {
            for (String called : calls.get(method)) {
                deepest = Math.max(deepest, depth(called, calls, above + 1));
            }
        }
        return deepest + 1;
    }
}
