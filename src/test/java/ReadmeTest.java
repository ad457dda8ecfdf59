import java.io.IOException;
import java.net.URL;
import java.net.URLClassLoader;
import java.nio.file.Files;
import java.nio.file.Path;
import java.util.ArrayList;
import java.util.List;
import java.util.regex.Matcher;
import java.util.regex.Pattern;
import java.util.stream.Stream;
import javax.tools.ToolProvider;

/**
 * Compiles the Java that README.md shows, and looks whether each line that tells an answer behind
 * "// " gets it; what stands there behind a ": " is said for the reader alone.
 */
public final class ReadmeTest extends Check {
    private static final Pattern BLOCK = Pattern.compile("(?s)```java\n(.*?)```");
    private static final Pattern ANSWER =
            Pattern.compile("\\s*(\\S.*\\));\\s+// (true|false|-?\\d+|'.'|\"[^\"]*\")(: .*)?");
    private static final Pattern TEST_NAME = Pattern.compile("(\\w+Test)\\.java");
    private static final String CLASS = "ReadmeUse";

    public static void main(String[] args) throws Exception {
        String readme = Files.readString(Path.of("README.md"));
        List<String> examples = new ArrayList<>();
        StringBuilder members = new StringBuilder();
        Matcher block = BLOCK.matcher(readme);
        while (block.find()) {
            if (block.group(1).startsWith("static ")) {
                members.append(block.group(1));
            } else {
                examples.add(block.group(1));
            }
        }
        due("README.md has examples", !examples.isEmpty(), true);
        run(source(examples, members.toString()));
        namesEachTest(readme);
        end();
    }

    private static String source(List<String> examples, String members) {
        StringBuilder source = new StringBuilder("public final class " + CLASS + " {\n").append(members);
        source.append("    public static void use(java.util.List<Object> answers) {\n");
        for (String example : examples) {
            source.append("        {\n");
            for (String line : example.split("\n")) {
                source.append(checked(line)).append('\n');
            }
            source.append("        }\n");
        }
        return source.append("    }\n}\n").toString();
    }

    private static String checked(String line) {
        Matcher answer = ANSWER.matcher(line);
        if (answer.matches()) {
            String call = answer.group(1);
            String want = answer.group(2).startsWith("'") ? "(int) " + answer.group(2) : answer.group(2);
            return "answers.addAll(java.util.List.of(\"" + call.replace("\"", "\\\"") + "\", " + call + ", " + want + "));";
        }
        due("a line with an answer that can be looked at: " + line, line.contains("//"), false);
        return line;
    }

    private static void run(String source) throws Exception {
        Path folder = Files.createTempDirectory("readme");
        try {
            Path file = folder.resolve(CLASS + ".java");
            Files.writeString(file, source);
            int failed = ToolProvider.getSystemJavaCompiler().run(null, null, null, "-d", folder.toString(),
                    "-cp", System.getProperty("java.class.path"), file.toString());
            due("what README.md shows compiles", failed, 0);
            if (failed == 0) {
                use(folder);
            }
        } finally {
            remove(folder);
        }
    }

    private static void use(Path folder) throws Exception {
        List<Object> answers = new ArrayList<>();
        try (URLClassLoader loader = new URLClassLoader(new URL[] {folder.toUri().toURL()})) {
            loader.loadClass(CLASS).getMethod("use", List.class).invoke(null, answers);
        }
        for (int k = 0; k < answers.size(); k += 3) {
            due(answers.get(k).toString(), answers.get(k + 1).toString(), answers.get(k + 2).toString());
        }
    }

    private static void namesEachTest(String readme) throws IOException {
        try (Stream<Path> files = Files.list(Path.of("src/test/java"))) {
            for (Path file : files.toList()) {
                Matcher test = TEST_NAME.matcher(file.getFileName().toString());
                if (test.matches()) {
                    due("README.md names " + test.group(1), readme.contains(test.group(1)), true);
                }
            }
        }
    }

    private static void remove(Path folder) throws IOException {
        try (Stream<Path> files = Files.list(folder)) {
            for (Path file : files.toList()) {
                Files.delete(file);
            }
        }
        Files.delete(folder);
    }
}
