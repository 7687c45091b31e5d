import java.io.IOException;
import java.io.StringWriter;
import java.lang.reflect.Method;
import java.lang.reflect.Modifier;
import java.net.URL;
import java.net.URLClassLoader;
import java.nio.file.Files;
import java.nio.file.Path;
import java.util.ArrayList;
import java.util.Comparator;
import java.util.List;
import java.util.regex.Matcher;
import java.util.regex.Pattern;
import java.util.stream.Stream;
import javax.tools.JavaCompiler;
import javax.tools.ToolProvider;

/**
 * README.md tells the truth: its code, all blocks in a row, is compiled and run as it stands, and each
 * call answers what the page names behind it; run from the project's root.
 */
public final class ReadmeTest {
    private static final Pattern BLOCK = Pattern.compile("(?s)```java\n(.*?)```");
    private static final Pattern SHOWN = Pattern.compile("(x\\.(\\w+)\\([^/]*\\)); +// (-?[0-9]+|[A-Z]+)\\b.*");
    private static final Pattern CALL = Pattern.compile("x\\.\\w+\\(");

    private final Check check = new Check();
    private final List<String> calls = new ArrayList<>();
    private final List<Long> due = new ArrayList<>();

    public static void main(String[] args) throws Exception {
        new ReadmeTest().run(Files.readString(Path.of("README.md")));
    }

    private void run(String readme) throws Exception {
        String source = wrapped(blocks(readme));
        List<Long> answers = answersOf(source);
        check.same("calls that were made", answers.size(), due.size());
        for (int i = 0; i < Math.min(answers.size(), due.size()); i++) {
            check.same("README.md: " + calls.get(i), answers.get(i), due.get(i));
        }
        showsEachCall(source);
        namesEachTest(readme);
        check.end();
    }

    private static String blocks(String readme) {
        StringBuilder code = new StringBuilder();
        Matcher block = BLOCK.matcher(readme);
        while (block.find()) {
            code.append(block.group(1));
        }
        return code.toString();
    }

    /** The page's code as a method that lists the answers of the calls whose answers it names. */
    private String wrapped(String code) {
        StringBuilder source = new StringBuilder("public final class ReadmeCalls {\n"
            + "public static java.util.List<Long> answers() {\n"
            + "java.util.List<Long> answers = new java.util.ArrayList<>();\n");
        for (String line : code.split("\n")) {
            Matcher shown = SHOWN.matcher(line.strip());
            if (shown.matches()) {
                calls.add(shown.group(1));
                due.add(named(shown.group(3)));
                source.append("answers.add((long) ").append(shown.group(1)).append(");\n");
            } else {
                boolean plain = !CALL.matcher(line).find() || line.strip().equals("x.type(letter);");
                check.isTrue("README.md names an answer: " + line, plain);
                source.append(line).append('\n');
            }
        }
        return source.append("return answers;\n}\n}\n").toString();
    }

    private static long named(String answer) {
        switch (answer) {
            case "BAD": return -1;
            case "STATE": return -2;
            case "FULL": return -3;
            case "NONE": return -9;
            case "NO": return -1000000;
            default: return Long.parseLong(answer);
        }
    }

    private static List<Long> answersOf(String source) throws Exception {
        Path folder = Files.createTempDirectory("readme");
        try {
            Path file = Files.writeString(folder.resolve("ReadmeCalls.java"), source);
            compile(file, folder);
            try (URLClassLoader loader = new URLClassLoader(new URL[] {folder.toUri().toURL()})) {
                Method answers = loader.loadClass("ReadmeCalls").getMethod("answers");
                List<Long> found = new ArrayList<>();
                for (Object answer : (List<?>) answers.invoke(null)) {
                    found.add((Long) answer);
                }
                return found;
            }
        } finally {
            remove(folder);
        }
    }

    private static void compile(Path file, Path folder) throws IOException {
        JavaCompiler compiler = ToolProvider.getSystemJavaCompiler();
        StringWriter said = new StringWriter();
        try (var files = compiler.getStandardFileManager(null, null, null)) {
            List<String> options = List.of("-d", folder.toString(), "-cp", System.getProperty("java.class.path"));
            boolean compiled = compiler.getTask(said, files, null, options, null, files.getJavaFileObjects(file)).call();
            if (!compiled) {
                throw new IllegalStateException("README.md's code does not compile:\n" + said);
            }
        }
    }

    private static void remove(Path folder) throws IOException {
        try (Stream<Path> all = Files.walk(folder)) {
            for (Path path : all.sorted(Comparator.reverseOrder()).toList()) {
                Files.delete(path);
            }
        }
    }

    private void showsEachCall(String source) {
        for (Method method : HalfPlanks.class.getDeclaredMethods()) {
            if (Modifier.isPublic(method.getModifiers())) {
                check.isTrue("README.md shows " + method.getName(), source.contains("x." + method.getName() + "("));
            }
        }
    }

    private void namesEachTest(String readme) throws IOException {
        check.isTrue("README.md says how to run the tests", readme.contains("```sh\n.ci/run\n```"));
        try (Stream<Path> files = Files.list(Path.of("src/test/java"))) {
            for (Path file : files.toList()) {
                String name = file.getFileName().toString().replace(".java", "");
                check.isTrue("README.md names " + name, !name.endsWith("Test") || readme.contains("`" + name + "`"));
            }
        }
    }
}
