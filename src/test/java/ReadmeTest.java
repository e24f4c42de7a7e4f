import java.io.File;
import java.io.IOException;
import java.net.URL;
import java.net.URLClassLoader;
import java.nio.file.Files;
import java.nio.file.Path;
import java.util.ArrayList;
import java.util.List;
import java.util.Set;
import java.util.TreeSet;
import java.util.regex.Matcher;
import java.util.regex.Pattern;
import javax.tools.ToolProvider;

/** README.md: its examples answer what they say, the command that it names is there, and so are its tests. */
public final class ReadmeTest {
    private static final Pattern EXAMPLE = Pattern.compile("```java\n(.*?)```", Pattern.DOTALL);
    private static final Pattern TOLD = Pattern.compile("(desk\\..*\\));\\s*// (-?\\d+|true|false)\\b.*");
    private static final Pattern NAMED = Pattern.compile("^- `(\\w+Test)`:", Pattern.MULTILINE);

    public static void main(String[] args) throws Exception {
        String readme = Files.readString(Path.of("README.md"));
        int examples = 0;
        Matcher example = EXAMPLE.matcher(readme);
        while (example.find()) {
            examples++;
            follow("Example" + examples, example.group(1));
        }
        Due.is("examples in README.md", examples, 2);
        Due.yes("README.md names .ci/run", readme.contains("```sh\n.ci/run\n```"));
        Due.yes(".ci/run can be run", new File(".ci/run").canExecute());
        tests(readme);
        Due.end("ReadmeTest");
    }

    /** Compiles and runs an example, and compares each answer that a comment beside its call tells. */
    private static void follow(String name, String example) throws Exception {
        List<String> calls = new ArrayList<>();
        List<String> told = new ArrayList<>();
        StringBuilder text = new StringBuilder();
        text.append("public class ").append(name).append(" { public static void run(java.util.List<Object> seen) {\n");
        for (String line : example.split("\n")) {
            Matcher call = TOLD.matcher(line.trim());
            if (call.matches()) {
                calls.add(call.group(1));
                told.add(call.group(2));
                text.append("seen.add(").append(call.group(1)).append(");\n");
            } else {
                text.append(line).append('\n');
            }
        }
        List<Object> seen = run(name, text.append("} }\n").toString());
        Due.yes(name + " tells some answers", !told.isEmpty());
        Due.is(name + ": answers", seen.size(), told.size());
        for (int i = 0; i < seen.size() && i < told.size(); i++) {
            String what = name + ": " + calls.get(i) + " answered " + seen.get(i) + ", README.md says " + told.get(i);
            Due.yes(what, seen.get(i).toString().equals(told.get(i)));
        }
    }

    private static List<Object> run(String name, String text) throws Exception {
        List<Object> seen = new ArrayList<>();
        Path dir = Files.createTempDirectory("readme");
        try {
            Path file = dir.resolve(name + ".java");
            Files.writeString(file, text);
            int code = ToolProvider.getSystemJavaCompiler().run(null, null, null,
                "-cp", System.getProperty("java.class.path"), "-d", dir.toString(), file.toString());
            Due.is(name + " compiles", code, 0);
            if (code == 0) call(dir, name, seen);
        } finally {
            remove(dir);
        }
        return seen;
    }

    private static void call(Path dir, String name, List<Object> seen) throws Exception {
        try (URLClassLoader loader = new URLClassLoader(new URL[] {dir.toUri().toURL()})) {
            loader.loadClass(name).getMethod("run", List.class).invoke(null, seen);
        }
    }

    private static void remove(Path dir) throws IOException {
        for (File file : dir.toFile().listFiles()) {
            Files.delete(file.toPath());
        }
        Files.delete(dir);
    }

    private static void tests(String readme) {
        Set<String> named = new TreeSet<>();
        Matcher name = NAMED.matcher(readme);
        while (name.find()) {
            named.add(name.group(1));
        }
        Set<String> there = new TreeSet<>();
        for (String file : new File("src/test/java").list()) {
            if (file.endsWith("Test.java")) there.add(file.substring(0, file.length() - ".java".length()));
        }
        Due.yes("tests named " + named + ", tests there " + there, named.equals(there));
    }
}
