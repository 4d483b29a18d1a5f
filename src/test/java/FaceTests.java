import java.io.IOException;
import java.lang.reflect.Constructor;
import java.lang.reflect.Field;
import java.lang.reflect.Method;
import java.lang.reflect.Modifier;
import java.nio.file.Files;
import java.nio.file.Path;
import java.util.ArrayList;
import java.util.List;
import java.util.TreeSet;
import java.util.regex.Matcher;
import java.util.regex.Pattern;

/**
 * The public face of the document, and what of LANGUAGE.md can be seen from the class and its source.
 * It is run in the project's folder.
 */
public final class FaceTests {
    private static final String[] FACE = {
        "int corner(int, int, int) throws IndexOutOfBoundsException, "
            + "IllegalArgumentException, UnsupportedOperationException",
        "int clear(int) throws IndexOutOfBoundsException",
        "int area(int) throws IndexOutOfBoundsException",
        "int lay(int) throws IllegalArgumentException",
        "int square(int, int) throws IllegalStateException",
        "int rows(int, int, int) throws IllegalStateException, IllegalArgumentException",
        "int row(int, int) throws IllegalStateException, NoSuchElementException",
        "int rowOf(int, int) throws IllegalStateException",
        "int way(int, int, int, int) throws IllegalStateException",
        "int turn(int, int) throws IllegalStateException, NoSuchElementException",
        "int best() throws IllegalStateException",
        "int bound() throws IllegalStateException",
        "int plan(int)",
        "int swing(int, int) throws IllegalStateException, IllegalArgumentException",
        "int slant(int, int)",
        "int unslant()",
        "int choose(int) throws IllegalStateException, IllegalArgumentException",
        "void yields(int, int, int) throws IndexOutOfBoundsException, IllegalArgumentException",
        "void bears(int, int, int) throws IndexOutOfBoundsException, IllegalArgumentException",
        "void reaper(int, int, int) throws IllegalArgumentException",
        "int run() throws IllegalStateException",
        "int look(int) throws NoSuchElementException",
        "int wagon(int)",
        "int count(int)"};

    private static final Check CHECK = new Check("FaceTests");

    public static void main(String[] args) throws IOException {
        theFace();
        theClassesInside();
        String source = Files.readString(Path.of("src/main/java/FieldRows.java"));
        theSource(source);
        whatIsMade(source);
        CHECK.end();
    }

    private static void theFace() {
        Class<?> face = FieldRows.class;
        CHECK.same("modifiers", "public final", Modifier.toString(face.getModifiers()));
        TreeSet<String> due = new TreeSet<>(List.of(FACE));
        TreeSet<String> got = new TreeSet<>();
        for (Method method : face.getDeclaredMethods()) {
            if (Modifier.isPrivate(method.getModifiers())) {
                for (String one : FACE) {
                    String name = one.substring(one.indexOf(' ') + 1, one.indexOf('('));
                    CHECK.same("private " + method.getName() + " is " + name, "false", "" + name.equals(method.getName()));
                }
            } else {
                CHECK.same(method.getName(), "public", Modifier.toString(method.getModifiers()));
                got.add(signature(method));
            }
        }
        CHECK.same("methods", due.toString(), got.toString());
        for (Field field : face.getDeclaredFields()) {
            boolean constant = field.getName().equals("NONE");
            String modifiers = Modifier.toString(field.getModifiers());
            CHECK.same(field.getName(), "true", "" + (constant ? modifiers.equals("public static final")
                    : modifiers.startsWith("private")));
        }
        Constructor<?>[] made = face.getDeclaredConstructors();
        CHECK.same("constructors", "1", "" + made.length);
        CHECK.same("constructor", "public", Modifier.toString(made[0].getModifiers()));
        CHECK.same("its parameters", "0", "" + made[0].getParameterCount());
    }

    private static String signature(Method method) {
        List<String> parameters = new ArrayList<>();
        for (Class<?> parameter : method.getParameterTypes()) {
            parameters.add(parameter.getName());
        }
        List<String> thrown = new ArrayList<>();
        for (Class<?> exception : method.getExceptionTypes()) {
            thrown.add(exception.getSimpleName());
        }
        return method.getReturnType().getName() + " " + method.getName() + "(" + String.join(", ", parameters) + ")"
                + (thrown.isEmpty() ? "" : " throws " + String.join(", ", thrown));
    }

    private static void theClassesInside() {
        Class<?>[] inside = FieldRows.class.getDeclaredClasses();
        CHECK.same("at most twelve classes", "true", "" + (inside.length < 12));
        for (Class<?> one : inside) {
            int modifiers = one.getModifiers();
            CHECK.same(one.getSimpleName() + " is static", "true", "" + Modifier.isStatic(modifiers));
            CHECK.same(one.getSimpleName() + " is not public", "false",
                    "" + (Modifier.isPublic(modifiers) || Modifier.isProtected(modifiers)));
            for (Field field : one.getDeclaredFields()) {
                boolean constant = Modifier.isFinal(field.getModifiers()) && field.getType() == int.class;
                CHECK.same(field.getName() + " is no static state", "true",
                        "" + (constant || !Modifier.isStatic(field.getModifiers())));
            }
            for (Method method : one.getDeclaredMethods()) {
                CHECK.same(method.getName() + " takes at most seven", "true", "" + (method.getParameterCount() <= 7));
            }
        }
    }

    private static void theSource(String source) {
        String code = source.replaceAll("(?s)/\\*.*?\\*/", "").replaceAll("//[^\n]*", "");
        for (String word : new String[] {"try", "catch", "finally", "synchronized", "assert", "package", "double", "float"}) {
            CHECK.same("'" + word + "' in the source", "false", "" + Pattern.compile("\\b" + word + "\\b").matcher(code).find());
        }
        for (String sign : new String[] {"->", "::", "Exact(", "System.", "@"}) {
            CHECK.same("'" + sign + "' in the source", "false", "" + code.contains(sign));
        }
        Matcher imports = Pattern.compile("(?m)^import (.*);$").matcher(code);
        List<String> all = new ArrayList<>();
        while (imports.find()) {
            all.add(imports.group(1));
        }
        CHECK.same("imports", "[java.util.Arrays, java.util.NoSuchElementException]", all.toString());
        CHECK.same("signs of ASCII alone", "true", "" + source.chars().allMatch(c -> c < 128));
        Matcher methods = Pattern.compile("(?ms)^( +)[a-z][^\n;=]*\\([^\n;=]*\\)[^\n;=]* \\{\n.*?^\\1\\}\n").matcher(code);
        while (methods.find()) {
            long lines = methods.group().lines().count();
            CHECK.same("a method's lines are at most 60", "true", "" + (lines <= 60));
        }
    }

    /** Calls share one room with all others of a run, so only constructors may make arrays and objects. */
    private static void whatIsMade(String source) {
        String calls = source.replaceAll("(?ms)^( +)(public )?[A-Z]\\w+\\([^)]*\\) \\{\n.*?^\\1\\}\n", "");
        CHECK.same("constructors are left out", "true", "" + (calls.length() < source.length()));
        for (String line : calls.split("\n")) {
            if (line.matches(".*\\bnew\\b.*") && !line.matches(" *(\\*|/\\*\\*|//).*")) {
                boolean fine = line.contains("throw new ") || line.matches(" {8}(private )?final [\\w\\[\\]]+ \\w+ = new .*");
                CHECK.same("made by an exception or with the object: " + line.trim(), "true", "" + fine);
            }
        }
    }
}
