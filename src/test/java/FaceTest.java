import java.io.IOException;
import java.lang.reflect.Constructor;
import java.lang.reflect.Field;
import java.lang.reflect.Method;
import java.lang.reflect.Modifier;
import java.nio.file.Files;
import java.nio.file.Path;
import java.util.ArrayList;
import java.util.List;
import java.util.Set;
import java.util.TreeSet;

/** The public face is the one of the document, word by word, and no more. */
public final class FaceTest {
    private static final String HEAD = "public final class NumberSieves {";
    private static final String MAKING = "public NumberSieves();";
    private static final int PROMISES = 27;

    public static void main(String[] args) throws IOException, IllegalAccessException {
        List<String> face = face();
        Class<?> c = NumberSieves.class;
        classItself(c);
        constructor(c, face);
        methods(c, face);
        constants(c, face);
        source(face);
        promisesAreOfTheFace(face);
        Check.end();
    }

    /** The document's lines between the braces. */
    private static List<String> face() {
        List<String> face = new ArrayList<>();
        boolean isInside = false;
        for (String line : Doc.section("The public face").split("\n")) {
            if (line.equals("}")) {
                isInside = false;
            }
            if (isInside) {
                face.add(line.trim());
            }
            if (line.equals(HEAD)) {
                isInside = true;
            }
        }
        Check.due("lines of the face: a constant, the constructor and a method for each other promise", face.size(),
            PROMISES + 1);
        return face;
    }

    private static void classItself(Class<?> c) {
        Check.holds("public final class", Modifier.toString(c.getModifiers()).equals("public final"));
        Check.holds("it extends Object alone", c.getSuperclass() == Object.class && c.getInterfaces().length == 0);
        Check.holds("it is in no package", c.getPackageName().isEmpty());
        Check.holds("it is generic in nothing", c.getTypeParameters().length == 0);
        for (Class<?> inside : c.getDeclaredClasses()) {
            int modifiers = inside.getModifiers();
            Check.holds(inside + " is static and not to be seen from outside", Modifier.isStatic(modifiers)
                && !Modifier.isPublic(modifiers) && !Modifier.isProtected(modifiers));
        }
    }

    private static void constructor(Class<?> c, List<String> face) {
        Check.holds("the document has the constructor", face.contains(MAKING));
        Check.due("constructors", c.getDeclaredConstructors().length, 1);
        for (Constructor<?> made : c.getDeclaredConstructors()) {
            Check.holds("it is public", Modifier.toString(made.getModifiers()).equals("public"));
            Check.due("its arguments", made.getParameterCount(), 0);
        }
    }

    private static void methods(Class<?> c, List<String> face) {
        Set<String> due = new TreeSet<>();
        for (String line : face) {
            if (line.endsWith(");") && !line.equals(MAKING)) {
                due.add(line.replaceAll(" \\w+([,)])", "$1").replace(", ", ",").replace(";", ""));
            }
        }
        Set<String> found = new TreeSet<>();
        for (Method m : c.getDeclaredMethods()) {
            if (!Modifier.isPrivate(m.getModifiers())) {
                found.add(told(m));
            }
        }
        Check.holds("the methods are " + due + ", and not " + found, found.equals(due));
    }

    private static String told(Method m) {
        StringBuilder text = new StringBuilder(Modifier.toString(m.getModifiers()));
        text.append(' ').append(m.getReturnType().getName()).append(' ').append(m.getName()).append('(');
        for (Class<?> type : m.getParameterTypes()) {
            text.append(text.charAt(text.length() - 1) == '(' ? "" : ",").append(type.getName());
        }
        return text.append(')').toString();
    }

    private static void constants(Class<?> c, List<String> face) throws IllegalAccessException {
        Set<String> due = new TreeSet<>();
        for (String line : face) {
            if (line.contains(" = ")) {
                due.add(line);
            }
        }
        Set<String> found = new TreeSet<>();
        for (Field f : c.getDeclaredFields()) {
            if (!Modifier.isPrivate(f.getModifiers())) {
                found.add(Modifier.toString(f.getModifiers()) + " " + f.getType().getName() + " " + f.getName() + " = "
                    + f.get(null) + ";");
            }
        }
        Check.holds("the constants are " + due + ", and not " + found, found.equals(due));
    }

    /** The source has each line as it stands in the document, the arguments' names too. */
    private static void source(List<String> face) throws IOException {
        List<String> lines = Files.readAllLines(Path.of("src/main/java/NumberSieves.java"));
        Set<String> declared = new TreeSet<>();
        for (String line : lines) {
            if (line.trim().startsWith("public ") || line.contains("protected ")) {
                declared.add(line);
            }
        }
        Set<String> due = new TreeSet<>();
        due.add(HEAD);
        for (String line : face) {
            due.add("    " + (line.endsWith(");") ? line.replace(";", " {") : line));
        }
        Check.holds("the source declares " + due + ", and not " + declared, declared.equals(due));
    }

    private static void promisesAreOfTheFace(List<String> face) {
        for (int promise = 1; promise <= PROMISES; promise++) {
            String section = Doc.section("Promise " + promise).trim();
            String call = section.substring(1, section.indexOf("`: "));
            boolean isNamed = promise < face.size() && face.get(promise).equals("public " + call + ";");
            Check.holds("promise " + promise + " is of the face: " + call, isNamed);
        }
    }
}
