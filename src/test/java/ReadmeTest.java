import java.io.IOException;
import java.net.URL;
import java.net.URLClassLoader;
import java.nio.file.Files;
import java.nio.file.Path;
import java.util.ArrayList;
import java.util.List;
import java.util.Set;
import java.util.TreeSet;
import java.util.regex.Matcher;
import java.util.regex.Pattern;
import javax.tools.ToolProvider;

/** Each line of README.md's Java answers what is told behind it; each call of the face stands there. */
public final class ReadmeTest {
    private static final Pattern BLOCK = Pattern.compile("(?s)```java\n(.*?)```");
    private static final Pattern ASKED = Pattern.compile("^([^;]*(?:\"[^\"]*\"[^;]*)*);\\s*// (-?\\d+|true|false)\\b.*$");

    private static final List<String> calls = new ArrayList<>();
    private static final List<String> due = new ArrayList<>();

    public static void main(String[] args) throws Exception {
        String page = Files.readString(Path.of("README.md"));
        List<?> got = answers(source(page));
        Due.is("lines of the page that were asked", got.size(), due.size());
        Due.holds("lines of the page that tell an answer: " + due.size(), due.size() >= 15);
        for (int i = 0; i < got.size(); i++) {
            Due.holds(calls.get(i) + " answered " + got.get(i) + ", the page says " + due.get(i),
                String.valueOf(got.get(i)).equals(due.get(i)));
        }
        wholeFace(page);
        Due.end();
    }

    /** Blocks that begin with static are methods, the others follow one another. */
    private static String source(String page) {
        StringBuilder methods = new StringBuilder();
        StringBuilder lines = new StringBuilder();
        Matcher block = BLOCK.matcher(page);
        while (block.find()) {
            if (block.group(1).startsWith("static ")) {
                methods.append(block.group(1));
            } else {
                statements(block.group(1).replaceAll("\n +", " "), lines);
            }
        }
        return "public class ReadmeExample {\n" + methods + "public static java.util.List<Object> answers() {\n"
            + "java.util.List<Object> got = new java.util.ArrayList<>();\n" + lines + "return got;\n}\n}\n";
    }

    private static void statements(String block, StringBuilder lines) {
        for (String line : block.split("\n")) {
            Matcher asked = ASKED.matcher(line);
            if (asked.matches()) {
                calls.add(asked.group(1));
                due.add(asked.group(2));
                lines.append("got.add(").append(asked.group(1)).append(");\n");
            } else {
                lines.append(line).append('\n');
            }
        }
    }

    private static List<?> answers(String source) throws Exception {
        Path folder = Files.createTempDirectory("readme");
        Path file = folder.resolve("ReadmeExample.java");
        try {
            Files.writeString(file, source);
            int compiled = ToolProvider.getSystemJavaCompiler().run(null, System.out, System.out, "-cp",
                System.getProperty("java.class.path"), "-d", folder.toString(), file.toString());
            Due.is("faults of the page's lines", compiled, 0);
            if (compiled != 0) {
                return List.of();
            }
            try (URLClassLoader loader = new URLClassLoader(new URL[] {folder.toUri().toURL()})) {
                return (List<?>) loader.loadClass("ReadmeExample").getMethod("answers").invoke(null);
            }
        } finally {
            remove(folder, file);
        }
    }

    private static void remove(Path folder, Path file) throws IOException {
        Files.deleteIfExists(file);
        Files.deleteIfExists(folder.resolve("ReadmeExample.class"));
        Files.deleteIfExists(folder);
    }

    private static void wholeFace(String page) {
        Set<String> names = new TreeSet<>();
        for (var method : WeatherWages.class.getMethods()) {
            if (method.getDeclaringClass() == WeatherWages.class) {
                names.add(method.getName());
            }
        }
        Due.is("calls of the face", names.size(), 41);
        for (String name : names) {
            Due.holds("the page names " + name, page.contains("`" + name + "`"));
        }
    }
}
