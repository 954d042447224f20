import java.io.IOException;
import java.lang.reflect.InvocationTargetException;
import java.lang.reflect.Method;
import java.nio.file.Files;
import java.nio.file.Path;
import java.util.ArrayList;
import java.util.HashMap;
import java.util.List;
import java.util.Map;
import java.util.Set;
import java.util.TreeSet;
import java.util.regex.Matcher;
import java.util.regex.Pattern;
import java.util.stream.Stream;

/** What README.md shows: each answer beside a call is the one that the class gives, and the tests are all there. */
public final class ReadmeTest {
    private static final Pattern BLOCK = Pattern.compile("(?s)```java\n(.*?)```");
    private static final String MAKING = "NumberSieves x = new NumberSieves();";
    private static final Pattern CALL =
        Pattern.compile("(?:(int|long|boolean) (\\w+) = )?x\\.(\\w+)\\((.*)\\);(?: +// (-?\\d+|true|false): .+)?");
    private static final Pattern INNER = Pattern.compile("x\\.(\\w+)\\(([^()]*)\\)");
    private static final Pattern NAMED_TEST = Pattern.compile("(?m)^\\| `(\\w+Test)` \\|");

    private static final Set<String> SHOWN = new TreeSet<>();

    private NumberSieves x = null;
    private int calls = 0;
    private final Map<String, Object> names = new HashMap<>();

    public static void main(String[] args) throws IOException, IllegalAccessException, InvocationTargetException {
        String text = Files.readString(Path.of("README.md"));
        int blocks = 0;
        for (Matcher m = BLOCK.matcher(text); m.find(); blocks++) {
            new ReadmeTest().run(m.group(1));
        }
        Check.holds("there are blocks of calls", blocks > 0);
        everyMethodIsShown();
        Check.holds("all calls stand in such blocks", !INNER.matcher(BLOCK.matcher(text).replaceAll("")).find());
        everyTestIsNamed(text);
        Check.holds("README.md says how the tests are run", text.contains("\n.ci/run\n"));
        Check.end();
    }

    private void run(String block) throws IllegalAccessException, InvocationTargetException {
        String[] lines = block.split("\n");
        Check.holds("a block begins with: " + MAKING, lines[0].equals(MAKING));
        x = new NumberSieves();
        for (int i = 1; i < lines.length; i++) {
            Matcher m = CALL.matcher(lines[i]);
            boolean isCall = m.matches();
            Check.holds("a call that can be run: " + lines[i], isCall);
            if (isCall) {
                compare(m);
            }
        }
        Check.holds("no more calls than are promised", calls <= Bench.CALLS_MOST);
    }

    private void compare(Matcher m) throws IllegalAccessException, InvocationTargetException {
        Method method = method(m.group(3));
        Object got = call(method, m.group(4));
        String told = m.group(5);
        Check.due("an answer stands beside " + m.group(), told != null, got != null);
        if (got != null && told != null) {
            Check.holds("README.md: " + m.group() + " .. it answers " + got, told.equals(got.toString()));
        }
        if (m.group(2) != null) {
            Check.holds("the type of " + m.group(2), m.group(1).equals(method.getReturnType().getName()));
            Check.holds("the name is new: " + m.group(2), names.put(m.group(2), got) == null);
        }
    }

    private static Method method(String name) {
        for (Method method : NumberSieves.class.getMethods()) {
            if (method.getName().equals(name)) {
                return method;
            }
        }
        throw new IllegalStateException("README.md calls " + name + ", which is no method of the class");
    }

    private Object call(Method method, String list) throws IllegalAccessException, InvocationTargetException {
        List<Object> values = new ArrayList<>();
        // A call within a call is told by its answer before the commas part the list.
        Matcher inner = INNER.matcher(list);
        while (inner.find()) {
            Object answer = call(method(inner.group(1)), inner.group(2));
            list = list.replace(inner.group(), answer.toString());
            inner = INNER.matcher(list);
        }
        Class<?>[] types = method.getParameterTypes();
        String[] words = list.isEmpty() ? new String[0] : list.split(", ");
        Check.due("arguments of " + method.getName(), words.length, types.length);
        for (int i = 0; i < words.length; i++) {
            values.add(value(words[i], types[i]));
        }
        calls++;
        SHOWN.add(method.getName());
        return method.invoke(x, values.toArray());
    }

    /** As javac takes it: a number without an L is an int. */
    private Object value(String word, Class<?> type) {
        if (names.containsKey(word)) {
            return names.get(word);
        }
        if (type == boolean.class) {
            Check.holds(word + " is true or false", word.equals("true") || word.equals("false"));
            return word.equals("true");
        }
        if (type == long.class && word.endsWith("L")) {
            return Long.valueOf(word.substring(0, word.length() - 1));
        }
        int number = Integer.parseInt(word);
        return type == long.class ? (Object) (long) number : (Object) number;
    }

    private static void everyMethodIsShown() {
        for (Method method : NumberSieves.class.getDeclaredMethods()) {
            if (java.lang.reflect.Modifier.isPublic(method.getModifiers())) {
                Check.holds("README.md shows " + method.getName(), SHOWN.contains(method.getName()));
            }
        }
    }

    private static void everyTestIsNamed(String text) throws IOException {
        Set<String> named = new TreeSet<>();
        for (Matcher m = NAMED_TEST.matcher(text); m.find();) {
            named.add(m.group(1));
        }
        Set<String> there = new TreeSet<>();
        try (Stream<Path> files = Files.list(Path.of("src/test/java"))) {
            files.map(file -> file.getFileName().toString()).filter(file -> file.endsWith("Test.java"))
                .forEach(file -> there.add(file.replace(".java", "")));
        }
        Check.holds("README.md names the tests " + there + ", and not " + named, named.equals(there));
    }
}
