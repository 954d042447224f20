import java.io.IOException;
import java.lang.reflect.Constructor;
import java.lang.reflect.Executable;
import java.lang.reflect.Field;
import java.lang.reflect.Method;
import java.lang.reflect.Modifier;
import java.nio.file.Files;
import java.nio.file.Path;
import java.util.ArrayList;
import java.util.Arrays;
import java.util.List;
import java.util.Set;
import java.util.TreeSet;
import java.util.regex.Matcher;
import java.util.regex.Pattern;

/** The class keeps to those rules of LANGUAGE.md that can be seen in its source or its compiled classes. */
public final class LanguageTest {
    private static final int CLASSES_MOST = 12;
    private static final int FIELDS_MOST = 20;
    private static final int PARAMETERS_MOST = 7;
    private static final int LINES_MOST = 60;

    // Rules 2, 3, 4, 6 and 13, as far as a word tells.
    private static final String[] FORBIDDEN = {"\\bthrow\\b", "\\bthrows\\b", "\\btry\\b", "\\bcatch\\b",
        "\\bsynchronized\\b", "\\bassert\\b", "\\bvolatile\\b", "\\bnative\\b", "->", "::", "@", "\\w+Exact\\b",
        "\\bsuper\\b", "\\bhashCode\\b", "\\bequals\\b", "\\btoString\\b", "\\bObject\\b", "\\bpackage\\b",
        "\\bfloat\\b", "\\bdouble\\b", "\\bvar\\b", "\\bthis\\b"};
    // Rule 4, as far as the class needs it.
    private static final Set<String> LIBRARY = Set.of("Arrays.fill", "Integer.bitCount", "Long.bitCount", "Math.max",
        "Math.min");
    private static final Set<String> IMPORTS = Set.of("java.util.Arrays");
    // Rule 5.
    private static final Set<Class<?>> CONSTANT_TYPES = Set.of(int.class, long.class, boolean.class, char.class,
        String.class, int[].class, long[].class, char[].class, byte[].class);
    private static final Set<String> PLAIN_TYPES = Set.of("int", "long", "short", "byte", "char", "boolean", "int[]",
        "long[]", "String");

    public static void main(String[] args) throws IOException {
        String text = Files.readString(Path.of("src/main/java/NumberSieves.java"));
        String code = text.replaceAll("(?s)/\\*.*?\\*/", " ").replaceAll("//[^\n]*", " ");
        List<Class<?>> classes = new ArrayList<>(Arrays.asList(NumberSieves.class.getDeclaredClasses()));
        classes.add(NumberSieves.class);
        words(code);
        library(code, classes);
        methodsAreShort(code);
        Check.holds("rule 11: " + classes.size() + " classes", classes.size() <= CLASSES_MOST);
        for (Class<?> c : classes) {
            classKeepsTheRules(c, classes);
        }
        Check.end();
    }

    private static void words(String code) {
        for (String word : FORBIDDEN) {
            Matcher m = Pattern.compile(word).matcher(code);
            Check.holds("there is no " + word, !m.find());
        }
        Check.holds("rule 5: no static initialiser", !Pattern.compile("\\bstatic\\s*\\{").matcher(code).find());
        Check.holds("no text is joined by +", !code.contains("\""));
    }

    private static void library(String code, List<Class<?>> classes) {
        Set<String> own = new TreeSet<>();
        for (Class<?> c : classes) {
            own.add(c.getSimpleName());
        }
        for (Matcher m = Pattern.compile("\\b([A-Z]\\w*)\\.(\\w+)\\(").matcher(code); m.find();) {
            boolean isListed = own.contains(m.group(1)) || LIBRARY.contains(m.group(1) + "." + m.group(2));
            Check.holds("rule 4: " + m.group(), isListed);
        }
        for (Matcher m = Pattern.compile("\\bimport\\s+(.*?);").matcher(code); m.find();) {
            Check.holds("rule 4: import " + m.group(1), IMPORTS.contains(m.group(1)));
        }
        for (Matcher m = Pattern.compile("\\bnew\\s+(\\w+)\\s*([(\\[])").matcher(code); m.find();) {
            boolean isOwn = m.group(2).equals("(") ? own.contains(m.group(1)) : PLAIN_TYPES.contains(m.group(1));
            Check.holds("rule 3: " + m.group(), isOwn);
        }
    }

    /** A method's first and last line stand equally far in. */
    private static void methodsAreShort(String code) {
        String[] lines = code.split("\n");
        for (int i = 0; i < lines.length; i++) {
            Matcher head = Pattern.compile("^( {4}| {8})[\\w<].*\\) \\{$").matcher(lines[i]);
            if (head.matches()) {
                int end = i;
                while (end < lines.length && !lines[end].equals(head.group(1) + "}")) {
                    end++;
                }
                Check.holds("rule 11: " + (end - i + 1) + " lines from " + lines[i], end - i + 1 <= LINES_MOST);
            }
        }
    }

    private static void classKeepsTheRules(Class<?> c, List<Class<?>> classes) {
        Set<String> names = new TreeSet<>();
        for (Method m : NumberSieves.class.getDeclaredMethods()) {
            if (Modifier.isPublic(m.getModifiers())) {
                names.add(m.getName());
            }
        }
        for (Method m : c.getDeclaredMethods()) {
            boolean isFace = c == NumberSieves.class && Modifier.isPublic(m.getModifiers());
            Check.holds("rule 1: " + m + " has a name of its own", isFace || !names.contains(m.getName()));
            Check.holds("rule 2: " + m + " was written", !m.isSynthetic());
            parametersAreFew(m);
        }
        for (Constructor<?> made : c.getDeclaredConstructors()) {
            parametersAreFew(made);
        }
        fields(c, classes);
        boolean isInnermost = c == NumberSieves.class || c.getDeclaredClasses().length == 0;
        Check.holds("rule 2: " + c + " has no class inside it", isInnermost);
        Check.holds("rule 2: " + c + " extends Object", c.getSuperclass() == Object.class);
    }

    private static void parametersAreFew(Executable called) {
        Check.holds("rule 11: arguments of " + called, called.getParameterCount() <= PARAMETERS_MOST);
    }

    private static void fields(Class<?> c, List<Class<?>> classes) {
        int held = 0;
        for (Field f : c.getDeclaredFields()) {
            if (Modifier.isStatic(f.getModifiers())) {
                Check.holds("rule 5: " + f + " is final", Modifier.isFinal(f.getModifiers()));
                Check.holds("rule 5: the type of " + f, CONSTANT_TYPES.contains(f.getType()));
            } else {
                held++;
                boolean isListed = PLAIN_TYPES.contains(f.getType().getSimpleName()) || classes.contains(f.getType());
                Check.holds("rule 3: the type of " + f, isListed);
                Check.holds("rule 1: " + f + " is private", Modifier.isPrivate(f.getModifiers()));
            }
        }
        Check.holds("rule 11: " + held + " fields in " + c, held <= FIELDS_MOST);
    }
}
