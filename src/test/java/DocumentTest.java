import java.io.IOException;
import java.nio.file.DirectoryStream;
import java.nio.file.Files;
import java.nio.file.Path;
import java.util.Map;
import java.util.TreeMap;
import java.util.regex.Matcher;
import java.util.regex.Pattern;

/** Each word of the document's terms and promises stands in a sentence that a test names. */
public final class DocumentTest {
    private static final Path TESTS = Path.of("src/test/java");
    private static final Path DOCUMENT = Path.of("../shared/DOC.md");
    private static final Pattern SAYS =
        Pattern.compile("Due\\.says\\(\"(\\w+)\",\\s*((?:\"(?:[^\"\\\\]|\\\\.)*\"[\\s+]*)+)\\);");

    public static void main(String[] args) throws IOException {
        Map<String, String> document = partsOf(Files.readString(DOCUMENT));
        Due.is("parts of the document", document.size(), 46);
        Map<String, StringBuilder> open = new TreeMap<>();
        document.forEach((where, words) -> open.put(where, new StringBuilder(words)));
        try (DirectoryStream<Path> files = Files.newDirectoryStream(TESTS, "*Test.java")) {
            for (Path file : files) {
                strike(document, open, file.getFileName().toString(), Files.readString(file));
            }
        }
        open.forEach((where, left) -> {
            String words = left.toString().replaceAll("[^A-Za-z0-9]+", " ").trim();
            Due.holds(where + ": no test names [" + words + "]", words.isEmpty());
        });
        Due.end();
    }

    private static String plain(String text) {
        return text.replaceAll("```text|```|`", " ").replaceAll("\\s+", " ").trim();
    }

    private static Map<String, String> partsOf(String document) {
        Map<String, String> parts = new TreeMap<>();
        String terms = document.substring(document.indexOf("## Terms") + 8, document.indexOf("## Promise 1:"));
        String[] sections = terms.substring(0, terms.indexOf("The constants:")).split("==== \\d\\. ");
        for (int i = 1; i < sections.length; i++) {
            parts.put("T" + i, plain(sections[i]));
        }
        String promises = document.substring(document.indexOf("## Promise 1:"), document.indexOf("## Not promised"));
        Matcher promise = Pattern.compile("(?s)## Promise (\\d+):[^\n]*\n\\s*`[^`]*`:(.*?)(?=## |$)").matcher(promises);
        while (promise.find()) {
            parts.put(promise.group(1), plain(promise.group(2)));
        }
        return parts;
    }

    private static void strike(Map<String, String> document, Map<String, StringBuilder> open, String file, String test) {
        Matcher says = SAYS.matcher(test);
        int read = 0;
        while (says.find()) {
            read++;
            String words = says.group(2).replaceAll("\"\\s*\\+\\s*\"", "").trim();
            words = words.substring(1, words.length() - 1);
            String part = document.getOrDefault(says.group(1), "");
            int at = part.indexOf(words);
            Due.holds(file + ": " + says.group(1) + " says [" + words + "]", at >= 0);
            for (; at >= 0; at = part.indexOf(words, at + 1)) {
                for (int i = at; i < at + words.length(); i++) {
                    open.get(says.group(1)).setCharAt(i, ' ');
                }
            }
        }
        Due.is(file + ": sentences read", read, test.split("Due\\.says\\(\"", -1).length - 1);
    }
}
