import java.io.IOException;
import java.io.UncheckedIOException;
import java.nio.file.Files;
import java.nio.file.Path;
import java.util.ArrayList;
import java.util.Comparator;
import java.util.List;
import java.util.Map;
import java.util.TreeMap;
import java.util.regex.Matcher;
import java.util.regex.Pattern;
import java.util.stream.Stream;

/** Every sentence of the promises and of the terms is one that some test names as its own. */
public final class DocTest {
    private static final Pattern NAMED = Pattern.compile("Check\\.sentence\\(\\s*\"([^\"]+)\",\\s*\"([^\"]+)\"\\)");
    private static final Pattern RULE = Pattern.compile("ruleIs\\(\"([^\"]+)\"");
    private static final int PROMISES = 27;

    public static void main(String[] args) throws IOException {
        Map<String, List<String>> named = namedByTests();
        for (int promise = 1; promise <= PROMISES; promise++) {
            String section = Doc.section("Promise " + promise);
            // Before the first colon stands the call itself.
            compare("Promise " + promise, section.substring(section.indexOf("`: ") + 3), named);
        }
        Check.holds("there is no promise beyond", Doc.section("Promise " + (PROMISES + 1)).isEmpty());
        compare("Terms", Doc.section("Terms").replaceAll("==== [IV]+\\.", ""), named);
        Check.holds("the 512 calls are named", named.containsKey("What it is"));
        Check.end();
    }

    private static Map<String, List<String>> namedByTests() throws IOException {
        Map<String, List<String>> named = new TreeMap<>();
        try (Stream<Path> files = Files.list(Path.of("src/test/java"))) {
            files.filter(file -> file.toString().endsWith("EdgesTest.java")).forEach(file -> gather(read(file), named));
        }
        return named;
    }

    private static String read(Path file) {
        try {
            return Files.readString(file);
        } catch (IOException e) {
            throw new UncheckedIOException(e);
        }
    }

    private static void gather(String source, Map<String, List<String>> named) {
        for (Matcher m = NAMED.matcher(source); m.find();) {
            named.computeIfAbsent(m.group(1), section -> new ArrayList<>()).add(m.group(2));
        }
        for (Matcher m = RULE.matcher(source); m.find();) {
            named.computeIfAbsent("Terms", section -> new ArrayList<>()).add(m.group(1));
        }
    }

    private static void compare(String section, String text, Map<String, List<String>> named) {
        List<String> words = new ArrayList<>(named.getOrDefault(section, List.of()));
        // Long ones first: a short one may stand within them.
        words.sort(Comparator.comparing(String::length).reversed());
        String left = text;
        for (String sentence : words) {
            left = left.replace(sentence, "");
        }
        left = left.trim();
        Check.holds(section + ": no test names \"" + left + "\"", !left.matches("(?s).*\\w.*"));
    }
}
