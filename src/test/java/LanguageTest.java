import java.nio.file.Files;
import java.nio.file.Path;
import java.util.Arrays;
import java.util.List;
import java.util.Map;
import java.util.Set;
import java.util.TreeMap;
import java.util.TreeSet;
import java.util.regex.Matcher;
import java.util.regex.Pattern;
import java.util.stream.Collectors;

/** What can be seen of ../shared/LANGUAGE.md in the text of the class itself; it is run in the project's folder. */
public final class LanguageTest {
    private static final int LONGEST_METHOD = 60;
    private static final int MOST_PARAMETERS = 7;
    private static final int MOST_CALLS_DEEP = 8;
    private static final Pattern NESTED = Pattern.compile("^ {4}static final class (\\w+) \\{$");
    private static final Pattern HEAD = Pattern.compile("^( {4}| {8})(?=\\S)[\\w\\[\\] ]*\\b(\\w+)\\(([^()]*)\\) \\{$");
    private static final Pattern CALL = Pattern.compile("(\\.?)(?<!new )\\b(?!(?:if|for|while|switch|return)\\b)(\\w+)\\(");
    private static final List<String> RULED_OUT = List.of(
        "import", "package", "try", "catch", "throw", "throws", "finally", "synchronized", "assert", "protected", "volatile",
        "native", "transient", "Thread", "Random", "Exception", "Object", "toString", "hashCode", "getClass", "float", "double");
    private static final Set<String> LIBRARY = Set.of("System.arraycopy", "Math.max", "Math.min", "Math.abs");
    private static final Set<String> CALLED_OF_THE_LIBRARY = Set.of(".arraycopy", ".max", ".min", ".abs", ".indexOf");

    private static final Check CHECK = new Check();

    public static void main(String[] args) throws Exception {
        String text = Files.readString(Path.of("src/main/java/CryptBays.java"));
        signs(text);
        String code = bare(text);
        words(code);
        library(code);
        statics(code);
        methods(code);
        CHECK.done();
    }

    private static void signs(String text) {
        CHECK.part("signs");
        CHECK.due("signs above 126", text.chars().filter(c -> c > 126).count(), 0);
    }

    /** The code without its comments, texts and signs between quotes, line by line. */
    private static String bare(String text) {
        return text.replaceAll("(?s)/\\*.*?\\*/", "").replaceAll("//[^\n]*", "")
            .replaceAll("\"[^\"\n]*\"", "\"\"").replaceAll("'[^'\n]+'", "0");
    }

    private static void words(String code) {
        CHECK.part("words");
        for (String word : RULED_OUT) {
            CHECK.due(word, Pattern.compile("\\b" + word + "\\b").matcher(code).results().count(), 0);
        }
        CHECK.due("->", code.contains("->") ? 1 : 0, 0);
        CHECK.due("::", code.contains("::") ? 1 : 0, 0);
        CHECK.due("texts joined by +", Pattern.compile("\"\"\\s*\\+|\\+\\s*\"\"").matcher(code).results().count(), 0);
    }

    private static void library(String code) {
        CHECK.part("library");
        Set<String> inside = new TreeSet<>();
        Matcher classes = Pattern.compile("class (\\w+)").matcher(code);
        while (classes.find()) {
            inside.add(classes.group(1));
        }
        Matcher calls = Pattern.compile("\\b([A-Z][a-z]\\w*)\\.(\\w+)").matcher(code);
        while (calls.find()) {
            boolean fine = inside.contains(calls.group(1)) || LIBRARY.contains(calls.group());
            CHECK.due(calls.group(), fine ? 1 : 0, 1);
        }
        Matcher made = Pattern.compile("new (\\w+)").matcher(code);
        while (made.find()) {
            boolean fine = inside.contains(made.group(1)) || made.group(1).matches("int|long|char");
            CHECK.due(made.group(), fine ? 1 : 0, 1);
        }
    }

    private static void statics(String code) {
        CHECK.part("statics");
        Matcher fields = Pattern.compile("(?m)^.*\\bstatic\\b.*;$").matcher(code);
        while (fields.find()) {
            CHECK.due(fields.group().trim(), fields.group().matches(".*static final int .*") ? 1 : 0, 1);
        }
    }

    /** A method begins with a line that ends with ') {' at a member's depth and ends with the brace of the same depth. */
    private static void methods(String code) {
        CHECK.part("methods");
        Map<String, String> bodies = new TreeMap<>();
        String inside = "";
        String[] lines = code.split("\n");
        for (int i = 0; i < lines.length; i++) {
            Matcher opens = NESTED.matcher(lines[i]);
            inside = opens.matches() ? opens.group(1) : inside;
            Matcher head = HEAD.matcher(lines[i]);
            if (!head.matches() || lines[i].trim().matches("(if|for|while|switch).*")) {
                continue;
            }
            int end = i;
            while (end < lines.length && !lines[end].equals(head.group(1) + "}")) {
                end++;
            }
            CHECK.due(lines[i].trim() + " is short", end - i < LONGEST_METHOD ? 1 : 0, 1);
            CHECK.due(lines[i].trim() + " has few parameters", head.group(3).split(",").length <= MOST_PARAMETERS ? 1 : 0, 1);
            String name = (head.group(1).length() == 4 ? "CryptBays" : inside) + "." + head.group(2);
            String body = String.join("\n", Arrays.asList(lines).subList(i + 1, Math.min(end, lines.length)));
            CHECK.due(name + " is there once", bodies.put(name, body) == null ? 1 : 0, 1);
        }
        CHECK.due("methods are found", bodies.size() > FaceTest.METHODS.length ? 1 : 0, 1);
        calls(bodies);
    }

    private static void calls(Map<String, String> bodies) {
        for (String method : bodies.keySet()) {
            CHECK.due(method + " goes few calls deep", deepest(method, bodies, 1) <= MOST_CALLS_DEEP ? 1 : 0, 1);
            for (String called : called(method, bodies)) {
                boolean fine = bodies.containsKey(called) || CALLED_OF_THE_LIBRARY.contains(called);
                CHECK.due(method + " may call " + called, fine ? 1 : 0, 1);
            }
        }
    }

    /** How many calls stand open at most; a method that comes back to itself is seen by going too deep. */
    private static int deepest(String method, Map<String, String> bodies, int depth) {
        int most = depth;
        if (depth <= MOST_CALLS_DEEP) {
            for (String called : called(method, bodies)) {
                most = bodies.containsKey(called) ? Math.max(most, deepest(called, bodies, depth + 1)) : most;
            }
        }
        return most;
    }

    /** A call with a dot is of another class (of any that has such a method), one without is of its own. */
    private static Set<String> called(String method, Map<String, String> bodies) {
        String own = method.substring(0, method.indexOf('.') + 1);
        Set<String> all = new TreeSet<>();
        Matcher call = CALL.matcher(bodies.get(method));
        while (call.find()) {
            String name = "." + call.group(2);
            if (call.group(1).isEmpty()) {
                all.add(own + call.group(2));
                continue;
            }
            List<String> others = bodies.keySet().stream()
                .filter(other -> other.endsWith(name) && !other.startsWith(own)).collect(Collectors.toList());
            all.addAll(others.isEmpty() ? List.of(name) : others);
        }
        return all;
    }
}
