import java.net.URL;
import java.net.URLClassLoader;
import java.nio.file.Files;
import java.nio.file.Path;
import java.util.LinkedHashMap;
import java.util.Map;
import java.util.regex.Matcher;
import java.util.regex.Pattern;
import javax.tools.ToolProvider;

/** The examples of README.md, taken from there: each answer that has a name is the one that stands behind it. */
public final class ReadmeTest {
    private static final Pattern NAMED = Pattern.compile("(?:int|boolean) (\\w+) = .*;\\s*// (-?\\d+|true|false)\\b.*");

    private ReadmeTest() {
    }

    public static void main(String[] args) throws Exception {
        Due due = new Due("ReadmeTest");
        Map<String, String> told = new LinkedHashMap<>();
        StringBuilder code = new StringBuilder();
        boolean inside = false;
        for (String line : Files.readAllLines(Path.of("README.md"))) {
            if (line.startsWith("```")) {
                inside = line.equals("```java");
            } else if (inside) {
                code.append(line).append('\n');
                Matcher named = NAMED.matcher(line);
                if (named.matches()) {
                    told.put(named.group(1), named.group(2));
                    code.append("got.put(\"" + named.group(1) + "\", \"\" + " + named.group(1) + ");\n");
                }
            }
        }
        due.is("examples in README.md", told.size() > 0, true);
        Map<?, ?> got = answers(due, code.toString());
        for (Map.Entry<String, String> e : told.entrySet()) {
            String what = e.getKey() + " is told as " + e.getValue() + " and was " + got.get(e.getKey());
            due.is(what, e.getValue().equals(got.get(e.getKey())), true);
        }
        due.end();
    }

    /** What the code answered, by the names that it gives its answers. */
    private static Map<?, ?> answers(Due due, String code) throws Exception {
        Path out = Files.createTempDirectory("readme");
        Path file = out.resolve("Example.java");
        Path made = out.resolve("Example.class");
        try {
            Files.writeString(file, "public class Example {\n"
                + "public static java.util.Map<String, String> answers() {\n"
                + "java.util.Map<String, String> got = new java.util.HashMap<>();\n" + code + "return got;\n}\n}\n");
            int failed = ToolProvider.getSystemJavaCompiler().run(null, null, null, "--release", "17",
                "-cp", System.getProperty("java.class.path"), "-d", out.toString(), file.toString());
            due.is("compiling the examples", failed, 0);
            try (URLClassLoader loader = new URLClassLoader(new URL[] {out.toUri().toURL()})) {
                return (Map<?, ?>) loader.loadClass("Example").getMethod("answers").invoke(null);
            }
        } finally {
            Files.deleteIfExists(file);
            Files.deleteIfExists(made);
            Files.delete(out);
        }
    }
}
