import java.io.File;
import java.io.IOException;
import java.net.URL;
import java.net.URLClassLoader;
import java.nio.file.Files;
import java.nio.file.Path;
import java.util.ArrayList;
import java.util.List;
import java.util.regex.Matcher;
import java.util.regex.Pattern;
import javax.tools.ToolProvider;

/** README.md's examples are compiled and done: each call must answer what stands behind it. */
final class ReadmeTest {
    private static final Pattern BLOCK = Pattern.compile("(?s)```java\n(.*?)```");
    private static final Pattern CALL = Pattern.compile("(?m)^(x\\..*\\));\\s*// (-?\\d+)(:.*)?$");

    public static void main(String[] args) throws Exception {
        String source = examples(Files.readString(Path.of("README.md")));
        Path made = Files.createTempDirectory("readme");
        try {
            done(made, source);
        } finally {
            remove(made);
        }
        Check.finish("ReadmeTest");
    }

    private static String examples(String readme) {
        StringBuilder members = new StringBuilder();
        StringBuilder calls = new StringBuilder();
        int answers = 0;
        Matcher block = BLOCK.matcher(readme);
        while (block.find()) {
            String code = block.group(1);
            if (code.startsWith("static ")) {
                members.append(code);
                continue;
            }
            Matcher call = CALL.matcher(code);
            StringBuilder compared = new StringBuilder();
            while (call.find()) {
                String shown = "\"" + call.group(1).replace("\"", "'") + "\"";
                call.appendReplacement(compared, Matcher.quoteReplacement("names.add(" + shown + "); answers.add((long) "
                    + call.group(1) + "); answers.add(" + call.group(2) + "L);"));
                answers++;
            }
            call.appendTail(compared);
            Check.due("lines of calls without an answer in: " + compared, Pattern.compile("(?m)^x\\.").matcher(compared).find() ? 1 : 0, 0);
            calls.append("{\n").append(compared).append("}\n");
        }
        Check.due("README.md has examples", answers > 30 ? 1 : 0, 1);
        return "import java.util.List;\npublic final class ReadmeExamples {\n" + members
            + "public static void all(List<String> names, List<Long> answers) {\n" + calls + "}\n}\n";
    }

    private static void done(Path made, String source) throws Exception {
        Path file = made.resolve("ReadmeExamples.java");
        Files.writeString(file, source);
        String classes = System.getProperty("java.class.path");
        int result = ToolProvider.getSystemJavaCompiler().run(null, null, null, "-cp", classes, "-d", made.toString(), file.toString());
        Check.due("compiling README.md's examples", result, 0);
        if (result != 0) {
            return;
        }
        try (URLClassLoader loader = new URLClassLoader(new URL[] {made.toUri().toURL()})) {
            List<String> names = new ArrayList<>();
            List<Long> answers = new ArrayList<>();
            loader.loadClass("ReadmeExamples").getMethod("all", List.class, List.class).invoke(null, names, answers);
            for (int i = 0; i < names.size(); i++) {
                Check.due(names.get(i), answers.get(2 * i), answers.get(2 * i + 1));
            }
        }
    }

    private static void remove(Path directory) throws IOException {
        File[] inside = directory.toFile().listFiles();
        for (File file : inside == null ? List.<File>of() : List.of(inside)) {
            Files.delete(file.toPath());
        }
        Files.delete(directory);
    }
}
