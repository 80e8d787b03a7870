import java.io.IOException;
import java.lang.reflect.Field;
import java.lang.reflect.Method;
import java.lang.reflect.Modifier;
import java.net.URL;
import java.net.URLClassLoader;
import java.nio.file.Files;
import java.nio.file.Path;
import java.util.ArrayList;
import java.util.Comparator;
import java.util.List;
import java.util.Set;
import java.util.TreeSet;
import java.util.regex.Matcher;
import java.util.regex.Pattern;
import java.util.stream.Collectors;
import java.util.stream.Stream;
import javax.tools.ToolProvider;

/** README.md against the class and the tests themselves; it is run in the project's folder. */
public final class ReadmeTest {
    private static final String EXAMPLES = "ReadmeExamples";
    private static final Pattern BLOCK = Pattern.compile("(?ms)^```java\n(.*?)^```$");
    /** A call of the face and, behind it, its answer. */
    private static final Pattern ANSWERED = Pattern.compile("( *(?:int \\w+ = )?)(crypt\\.\\w+\\(.*\\)); +// (-?\\d+): .+");
    private static final Set<String> UNANSWERED = Set.of("CryptBays crypt = new CryptBays();", "crypt.type(letter);");

    private final Check check = new Check();
    private final String page;

    private ReadmeTest(String page) {
        this.page = page;
    }

    public static void main(String[] args) throws Exception {
        ReadmeTest test = new ReadmeTest(Files.readString(Path.of("README.md")));
        test.examples();
        test.constants();
        test.calls();
        test.tests();
        test.check.done();
    }

    private void yes(String what, boolean is) {
        check.due(what, is ? 1 : 0, 1);
    }

    // ---- what the page shows of the class's use

    private void examples() throws Exception {
        check.part("examples");
        List<String> told = new ArrayList<>();
        List<Integer> want = new ArrayList<>();
        StringBuilder source = new StringBuilder("public final class " + EXAMPLES + " {\n"
            + "static int tell(java.util.List<Integer> answers, int answer) { answers.add(answer); return answer; }\n"
            + "public static void run(java.util.List<Integer> answers) {\n");
        Matcher block = BLOCK.matcher(page);
        while (block.find()) {
            source.append("{\n");
            for (String line : block.group(1).split("\n")) {
                source.append(telling(line, told, want)).append('\n');
            }
            source.append("}\n");
        }
        yes("there are examples", !told.isEmpty());
        List<Integer> got = answers(source.append("}\n}\n").toString());
        check.due("answers", got.size(), want.size());
        for (int i = 0; i < Math.min(got.size(), want.size()); i++) {
            check.due(told.get(i), got.get(i), want.get(i));
        }
    }

    /** The line as it is shown, but its answer is told; a call that is shown without its answer is not as due. */
    private String telling(String line, List<String> told, List<Integer> want) {
        Matcher answered = ANSWERED.matcher(line);
        if (!answered.matches()) {
            yes("has an answer: " + line, !line.contains("crypt.") || UNANSWERED.contains(line.trim()));
            return line;
        }
        told.add(answered.group(2));
        want.add(Integer.parseInt(answered.group(3)));
        return answered.group(1) + "tell(answers, " + answered.group(2) + ");";
    }

    private List<Integer> answers(String source) throws Exception {
        List<Integer> answers = new ArrayList<>();
        Path folder = Files.createTempDirectory("readme");
        try {
            Path file = Files.writeString(folder.resolve(EXAMPLES + ".java"), source);
            int exit = ToolProvider.getSystemJavaCompiler().run(null, null, null, "-Xlint:all", "-Werror",
                "-cp", System.getProperty("java.class.path"), "-d", folder.toString(), file.toString());
            check.due("the compiler", exit, 0);
            if (exit == 0) {
                run(folder, answers);
            }
        } finally {
            remove(folder);
        }
        return answers;
    }

    private static void run(Path folder, List<Integer> answers) throws Exception {
        try (URLClassLoader loader = new URLClassLoader(new URL[] {folder.toUri().toURL()})) {
            loader.loadClass(EXAMPLES).getMethod("run", List.class).invoke(null, answers);
        }
    }

    private static void remove(Path folder) throws IOException {
        try (Stream<Path> files = Files.walk(folder)) {
            for (Path file : files.sorted(Comparator.reverseOrder()).collect(Collectors.toList())) {
                Files.delete(file);
            }
        }
    }

    // ---- its tables

    private void constants() throws IllegalAccessException {
        check.part("constants");
        Set<String> named = new TreeSet<>();
        Matcher row = Pattern.compile("(?m)^\\| `([A-Z]+)` \\| (-?\\d+) \\| .+ \\|$").matcher(page);
        while (row.find()) {
            named.add(row.group(1) + " " + row.group(2));
        }
        Set<String> want = new TreeSet<>();
        for (Field field : CryptBays.class.getFields()) {
            want.add(field.getName() + " " + field.getInt(null));
        }
        alike(named, want);
    }

    private void calls() {
        check.part("calls");
        Set<String> named = new TreeSet<>();
        Matcher row = Pattern.compile("(?m)^\\| `(\\w+)\\(([^()]*)\\)` \\| (\\d+) \\| .+ \\|$").matcher(page);
        while (row.find()) {
            int parameters = row.group(2).isEmpty() ? 0 : row.group(2).split(", ").length;
            named.add(row.group(1) + " " + parameters);
            check.due("the promise of " + row.group(1), Integer.parseInt(row.group(3)), promiseOf(row.group(1)));
        }
        Set<String> want = new TreeSet<>();
        for (Method method : CryptBays.class.getDeclaredMethods()) {
            if (Modifier.isPublic(method.getModifiers())) {
                want.add(method.getName() + " " + method.getParameterCount());
            }
        }
        alike(named, want);
    }

    /** Promise 1 is a new object; the calls follow in the order of the document's face. */
    private static int promiseOf(String call) {
        for (int i = 0; i < FaceTest.METHODS.length; i++) {
            if (FaceTest.METHODS[i].startsWith(call + "(")) {
                return i + 2;
            }
        }
        return 0;
    }

    private void alike(Set<String> named, Set<String> want) {
        for (String one : want) {
            yes("is named: " + one, named.contains(one));
        }
        for (String one : named) {
            yes("is there: " + one, want.contains(one));
        }
    }

    // ---- its tests

    private void tests() throws IOException {
        check.part("tests");
        String command = "```sh\n.ci/run\n```";
        yes("the command is named", page.contains(command));
        yes("the command can be run", Files.isExecutable(Path.of(".ci/run")));
        List<Path> files;
        try (Stream<Path> all = Files.list(Path.of("src/test/java"))) {
            files = all.sorted().collect(Collectors.toList());
        }
        for (Path file : files) {
            String name = file.getFileName().toString().replace(".java", "");
            boolean isTest = Files.readString(file).contains("public static void main(");
            yes(name + " is run by the command if it is a test", isTest == name.endsWith("Test"));
            yes(name + " is named if it is a test", !isTest || page.contains("`" + name + "`"));
        }
    }
}
