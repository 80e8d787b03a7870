import java.nio.file.Files;
import java.nio.file.Path;
import java.util.List;
import java.util.Set;
import java.util.TreeSet;
import java.util.regex.Matcher;
import java.util.regex.Pattern;

/** What can be seen of ../shared/LANGUAGE.md in the text of the class itself; it is run in the project's folder. */
public final class LanguageTest {
    private static final int LONGEST_METHOD = 60;
    private static final int MOST_PARAMETERS = 7;
    private static final List<String> RULED_OUT = List.of(
        "import", "package", "try", "catch", "throw", "throws", "finally", "synchronized", "assert", "protected", "volatile",
        "native", "transient", "Thread", "Random", "Exception", "Object", "toString", "hashCode", "getClass", "float", "double");
    private static final Set<String> LIBRARY = Set.of("System.arraycopy", "Math.max", "Math.min", "Math.abs");

    private static final Check CHECK = new Check();

    public static void main(String[] args) throws Exception {
        String text = Files.readString(Path.of("src/main/java/CryptBays.java"));
        signs(text);
        String code = bare(text);
        words(code);
        library(code);
        statics(code);
        methods(code);
        CHECK.done();
    }

    private static void signs(String text) {
        CHECK.part("signs");
        CHECK.due("signs above 126", text.chars().filter(c -> c > 126).count(), 0);
    }

    /** The code without its comments, texts and signs between quotes, line by line. */
    private static String bare(String text) {
        return text.replaceAll("(?s)/\\*.*?\\*/", "").replaceAll("//[^\n]*", "")
            .replaceAll("\"[^\"\n]*\"", "\"\"").replaceAll("'[^'\n]+'", "0");
    }

    private static void words(String code) {
        CHECK.part("words");
        for (String word : RULED_OUT) {
            CHECK.due(word, Pattern.compile("\\b" + word + "\\b").matcher(code).results().count(), 0);
        }
        CHECK.due("->", code.contains("->") ? 1 : 0, 0);
        CHECK.due("::", code.contains("::") ? 1 : 0, 0);
        CHECK.due("texts joined by +", Pattern.compile("\"\"\\s*\\+|\\+\\s*\"\"").matcher(code).results().count(), 0);
    }

    private static void library(String code) {
        CHECK.part("library");
        Set<String> inside = new TreeSet<>();
        Matcher classes = Pattern.compile("class (\\w+)").matcher(code);
        while (classes.find()) {
            inside.add(classes.group(1));
        }
        Matcher calls = Pattern.compile("\\b([A-Z][a-z]\\w*)\\.(\\w+)").matcher(code);
        while (calls.find()) {
            boolean fine = inside.contains(calls.group(1)) || LIBRARY.contains(calls.group());
            CHECK.due(calls.group(), fine ? 1 : 0, 1);
        }
        Matcher made = Pattern.compile("new (\\w+)").matcher(code);
        while (made.find()) {
            boolean fine = inside.contains(made.group(1)) || made.group(1).matches("int|long|char");
            CHECK.due(made.group(), fine ? 1 : 0, 1);
        }
    }

    private static void statics(String code) {
        CHECK.part("statics");
        Matcher fields = Pattern.compile("(?m)^.*\\bstatic\\b.*;$").matcher(code);
        while (fields.find()) {
            CHECK.due(fields.group().trim(), fields.group().matches(".*static final int .*") ? 1 : 0, 1);
        }
    }

    /** A method begins with a line that ends with ') {' at a member's depth and ends with the brace of the same depth. */
    private static void methods(String code) {
        CHECK.part("methods");
        String[] lines = code.split("\n");
        for (int i = 0; i < lines.length; i++) {
            Matcher head = Pattern.compile("^( {4}| {8})(?=\\S)[\\w\\[\\] ]*\\b\\w+\\(([^()]*)\\) \\{$").matcher(lines[i]);
            if (!head.matches() || lines[i].trim().matches("(if|for|while|switch).*")) {
                continue;
            }
            int end = i;
            while (end < lines.length && !lines[end].equals(head.group(1) + "}")) {
                end++;
            }
            CHECK.due(lines[i].trim() + " is short", end - i < LONGEST_METHOD ? 1 : 0, 1);
            CHECK.due(lines[i].trim() + " has few parameters", head.group(2).split(",").length <= MOST_PARAMETERS ? 1 : 0, 1);
        }
    }
}
