import java.io.IOException;
import java.net.URL;
import java.net.URLClassLoader;
import java.nio.file.Files;
import java.nio.file.Path;
import java.util.ArrayList;
import java.util.List;
import java.util.regex.Matcher;
import java.util.regex.Pattern;
import javax.tools.ToolProvider;

/** The Java of README.md, compiled and run as it stands there: each call answers what stands behind it. */
public final class ReadmeTest {
    private static final Pattern BLOCK = Pattern.compile("(?s)```java\n(.*?)```");
    private static final Pattern ROW = Pattern.compile("(x\\.\\w+\\(.*\\)); +// (-?\\d+): .*");
    private static final Check c = new Check();

    private static final List<String> calls = new ArrayList<>();
    private static final List<Long> wanted = new ArrayList<>();

    public static void main(String[] args) throws Exception {
        String readme = Files.readString(Path.of("README.md"));
        StringBuilder code = new StringBuilder();
        Matcher block = BLOCK.matcher(readme);
        while (block.find()) {
            for (String line : block.group(1).split("\n")) code.append(noted(line)).append('\n');
        }
        List<Long> answers = run(code.toString());
        c.holds("the README has rows", calls.size() > 0);
        c.due("rows that ran", answers.size(), calls.size());
        for (int i = 0; i < answers.size() && i < calls.size(); i++) c.due(calls.get(i), answers.get(i), wanted.get(i));
        tellsHowToTest(readme);
        c.end();
    }

    /** A row of the README, so that its answer is kept, if the README tells one. */
    private static String noted(String line) {
        Matcher row = ROW.matcher(line);
        if (!row.matches()) {
            c.holds("a call and what it answers: " + line, !line.contains("//"));
            return line;
        }
        calls.add(row.group(1));
        wanted.add(Long.valueOf(row.group(2)));
        return "answers.add((long) " + row.group(1) + ");";
    }

    private static void tellsHowToTest(String readme) throws IOException {
        c.holds("how to run all tests", readme.contains("\n    bash .ci/run\n") && Files.isExecutable(Path.of(".ci/run")));
        try (var files = Files.list(Path.of("src/test/java"))) {
            for (Path file : (Iterable<Path>) files::iterator) {
                String name = file.getFileName().toString().replace(".java", "");
                if (name.endsWith("Test")) c.holds("the README tells of " + name, readme.contains("`" + name + "`"));
            }
        }
    }

    private static List<Long> run(String code) throws Exception {
        Path room = Files.createTempDirectory("readme");
        Path source = room.resolve("Rows.java");
        Files.writeString(source, "public final class Rows implements java.util.function.Consumer<java.util.List<Long>> {\n"
            + "public void accept(java.util.List<Long> answers) {\n" + code + "}\n}\n");
        int refused = ToolProvider.getSystemJavaCompiler().run(null, null, null,
            "-cp", System.getProperty("java.class.path"), "-d", room.toString(), source.toString());
        List<Long> answers = new ArrayList<>();
        c.due("javac of the README's Java", refused, 0);
        if (refused == 0) {
            try (URLClassLoader loader = new URLClassLoader(new URL[] {room.toUri().toURL()})) {
                @SuppressWarnings("unchecked")
                var rows = (java.util.function.Consumer<List<Long>>) loader.loadClass("Rows").getConstructor().newInstance();
                rows.accept(answers);
            }
        }
        for (String name : new String[] {"Rows.class", "Rows.java", ""}) Files.deleteIfExists(room.resolve(name));
        return answers;
    }
}
