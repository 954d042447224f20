import java.io.IOException;
import java.lang.reflect.Constructor;
import java.lang.reflect.Field;
import java.lang.reflect.Method;
import java.lang.reflect.Modifier;
import java.nio.file.Files;
import java.nio.file.Path;
import java.util.Arrays;
import java.util.Set;
import java.util.TreeSet;
import java.util.regex.Pattern;

/** The public face is the document's and no more, and the source keeps to LANGUAGE.md. */
public final class FaceTest {
    private static final String[] METHODS = {"int span(long,int)", "long least(int)", "int spanned(int)",
        "int smooth(long,boolean)", "int prime(long)", "long next(long,boolean)", "int part(long)",
        "long parts(int,int)", "long parted(int)", "long without(long)", "int count(int)", "long sum(int)",
        "int among(int,int,int)", "long floors(int,int,int,int)", "long points(long)", "int rule(int)", "int sheet()",
        "boolean tell(int,int,long)", "int product(int,int)", "int turned(int)", "void clear()", "long at(int,int)",
        "long sumOf(int,int)", "int same(int,int)", "long far(int,int,int)", "int about(int)"};

    private static final String[] FORBIDDEN = {"throw", "try", "catch", "synchronized", "assert", "->", "::", "Exact",
        "System\\.(?!arraycopy)", "Math\\.sqrt", "double", "float"};

    public static void main(String[] args) throws IOException {
        Class<?> c = NumberSieves.class;
        Check.holds("public final class", Modifier.isPublic(c.getModifiers()) && Modifier.isFinal(c.getModifiers()));
        Check.due("constructors", c.getDeclaredConstructors().length, 1);
        for (Constructor<?> made : c.getDeclaredConstructors()) {
            Check.holds("public constructor without arguments",
                Modifier.isPublic(made.getModifiers()) && made.getParameterCount() == 0);
        }
        methods(c);
        fields(c);
        for (Class<?> inside : c.getDeclaredClasses()) {
            Check.holds(inside + " is static and not public",
                Modifier.isStatic(inside.getModifiers()) && !Modifier.isPublic(inside.getModifiers()));
        }
        source();
        Check.end();
    }

    private static void methods(Class<?> c) {
        Set<String> due = new TreeSet<>(Arrays.asList(METHODS));
        Set<String> names = new TreeSet<>();
        for (String method : METHODS) {
            names.add(method.substring(method.indexOf(' ') + 1, method.indexOf('(')));
        }
        Set<String> found = new TreeSet<>();
        for (Method m : c.getDeclaredMethods()) {
            if (Modifier.isPublic(m.getModifiers())) {
                found.add(told(m));
            } else {
                Check.holds(m + " is private", Modifier.isPrivate(m.getModifiers()));
                Check.holds(m + " has a name of its own", !names.contains(m.getName()));
            }
        }
        for (Class<?> inside : c.getDeclaredClasses()) {
            for (Method m : inside.getDeclaredMethods()) {
                Check.holds(m + " has a name of its own", !names.contains(m.getName()));
            }
        }
        Check.holds("the methods of the document, found: " + found, found.equals(due));
    }

    private static String told(Method m) {
        StringBuilder text = new StringBuilder(m.getReturnType().getName()).append(' ').append(m.getName()).append('(');
        for (Class<?> type : m.getParameterTypes()) {
            text.append(text.charAt(text.length() - 1) == '(' ? "" : ",").append(type.getName());
        }
        return text.append(')').toString();
    }

    private static void fields(Class<?> c) {
        for (Field f : c.getDeclaredFields()) {
            boolean isNone = f.getName().equals("NONE");
            Check.due(f + " is public", Modifier.isPublic(f.getModifiers()), isNone);
            Check.holds(f + " is private or NONE", isNone || Modifier.isPrivate(f.getModifiers()));
            Check.holds(f + " is final if static",
                !Modifier.isStatic(f.getModifiers()) || Modifier.isFinal(f.getModifiers()));
        }
    }

    private static void source() throws IOException {
        String text = Files.readString(Path.of("src/main/java/NumberSieves.java"));
        String code = text.replaceAll("(?s)/\\*.*?\\*/", " ").replaceAll("//[^\n]*", " ");
        for (String word : FORBIDDEN) {
            String whole = word.matches("[a-z]+") ? "\\b" + word + "\\b" : word;
            Check.holds("no " + word + " in the source", !Pattern.compile(whole).matcher(code).find());
        }
        Check.holds("no package line", !code.contains("package "));
    }
}
