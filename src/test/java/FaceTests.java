import java.io.DataInputStream;
import java.io.IOException;
import java.io.InputStream;
import java.lang.reflect.Constructor;
import java.lang.reflect.Field;
import java.lang.reflect.Method;
import java.lang.reflect.Modifier;
import java.nio.file.Files;
import java.nio.file.Path;
import java.util.ArrayList;
import java.util.List;
import java.util.TreeSet;
import java.util.regex.Matcher;
import java.util.regex.Pattern;

/**
 * The public face of the document, and what of LANGUAGE.md can be seen from the class and its source.
 * It is run in the project's folder.
 */
public final class FaceTests {
    private static final String[] FACE = {
        "int corner(int, int, int) throws IndexOutOfBoundsException, "
            + "IllegalArgumentException, UnsupportedOperationException",
        "int clear(int) throws IndexOutOfBoundsException",
        "int area(int) throws IndexOutOfBoundsException",
        "int lay(int) throws IllegalArgumentException",
        "int square(int, int) throws IllegalStateException",
        "int rows(int, int, int) throws IllegalStateException, IllegalArgumentException",
        "int row(int, int) throws IllegalStateException, NoSuchElementException",
        "int rowOf(int, int) throws IllegalStateException",
        "int way(int, int, int, int) throws IllegalStateException",
        "int turn(int, int) throws IllegalStateException, NoSuchElementException",
        "int best() throws IllegalStateException",
        "int bound() throws IllegalStateException",
        "int plan(int)",
        "int swing(int, int) throws IllegalStateException, IllegalArgumentException",
        "int slant(int, int)",
        "int unslant()",
        "int choose(int) throws IllegalStateException, IllegalArgumentException",
        "void yields(int, int, int) throws IndexOutOfBoundsException, IllegalArgumentException",
        "void bears(int, int, int) throws IndexOutOfBoundsException, IllegalArgumentException",
        "void reaper(int, int, int) throws IllegalArgumentException",
        "int run() throws IllegalStateException",
        "int look(int) throws NoSuchElementException",
        "int wagon(int)",
        "int count(int)"};

    /** What of rule 4's library, and of rule 6's exceptions, the class needs. */
    private static final List<String> LIBRARY = List.of(
        "java/lang/Object.<init>()V",
        "java/lang/Math.abs(I)I",
        "java/lang/Math.floorDiv(II)I",
        "java/lang/Math.max(II)I",
        "java/lang/Math.min(II)I",
        "java/util/Arrays.fill([II)V",
        "java/lang/IllegalArgumentException.<init>(Ljava/lang/String;)V",
        "java/lang/IllegalStateException.<init>(Ljava/lang/String;)V",
        "java/lang/IndexOutOfBoundsException.<init>(Ljava/lang/String;)V",
        "java/lang/UnsupportedOperationException.<init>(Ljava/lang/String;)V",
        "java/util/NoSuchElementException.<init>(Ljava/lang/String;)V");

    private static final Check CHECK = new Check("FaceTests");

    public static void main(String[] args) throws IOException {
        theFace();
        theClassesInside();
        theLibrary();
        String source = Files.readString(Path.of("src/main/java/FieldRows.java"));
        theSource(source);
        whatIsMade(source);
        CHECK.end();
    }

    private static void theFace() {
        Class<?> face = FieldRows.class;
        CHECK.same("modifiers", "public final", Modifier.toString(face.getModifiers()));
        TreeSet<String> due = new TreeSet<>(List.of(FACE));
        TreeSet<String> got = new TreeSet<>();
        for (Method method : face.getDeclaredMethods()) {
            if (Modifier.isPrivate(method.getModifiers())) {
                CHECK.same("private " + method.getName() + " is of the face", "false", "" + isOfTheFace(method.getName()));
            } else {
                CHECK.same(method.getName(), "public", Modifier.toString(method.getModifiers()));
                got.add(signature(method));
            }
        }
        CHECK.same("methods", due.toString(), got.toString());
        for (Field field : face.getDeclaredFields()) {
            boolean constant = field.getName().equals("NONE");
            String modifiers = Modifier.toString(field.getModifiers());
            CHECK.same(field.getName(), "true", "" + (constant ? modifiers.equals("public static final")
                    : modifiers.startsWith("private")));
        }
        Constructor<?>[] made = face.getDeclaredConstructors();
        CHECK.same("constructors", "1", "" + made.length);
        CHECK.same("constructor", "public", Modifier.toString(made[0].getModifiers()));
        CHECK.same("its parameters", "0", "" + made[0].getParameterCount());
    }

    private static String signature(Method method) {
        List<String> parameters = new ArrayList<>();
        for (Class<?> parameter : method.getParameterTypes()) {
            parameters.add(parameter.getName());
        }
        List<String> thrown = new ArrayList<>();
        for (Class<?> exception : method.getExceptionTypes()) {
            thrown.add(exception.getSimpleName());
        }
        return method.getReturnType().getName() + " " + method.getName() + "(" + String.join(", ", parameters) + ")"
                + (thrown.isEmpty() ? "" : " throws " + String.join(", ", thrown));
    }

    private static void theClassesInside() {
        Class<?>[] inside = FieldRows.class.getDeclaredClasses();
        CHECK.same("at most twelve classes", "true", "" + (inside.length < 12));
        for (Class<?> one : inside) {
            int modifiers = one.getModifiers();
            CHECK.same(one.getSimpleName() + " is static", "true", "" + Modifier.isStatic(modifiers));
            CHECK.same(one.getSimpleName() + " is not public", "false",
                    "" + (Modifier.isPublic(modifiers) || Modifier.isProtected(modifiers)));
            for (Field field : one.getDeclaredFields()) {
                boolean constant = Modifier.isFinal(field.getModifiers()) && field.getType() == int.class;
                CHECK.same(field.getName() + " is no static state", "true",
                        "" + (constant || !Modifier.isStatic(field.getModifiers())));
            }
            for (Method method : one.getDeclaredMethods()) {
                CHECK.same(method.getName() + " takes at most seven", "true", "" + (method.getParameterCount() <= 7));
                CHECK.same(method.getName() + " is none of the face", "false",
                        "" + (Modifier.isPrivate(method.getModifiers()) && isOfTheFace(method.getName())));
            }
            long fields = List.of(one.getDeclaredFields()).stream().filter(f -> !Modifier.isStatic(f.getModifiers())).count();
            CHECK.same(one.getSimpleName() + " has some twenty fields at most", "true", "" + (fields <= 20));
        }
    }

    private static boolean isOfTheFace(String name) {
        for (String one : FACE) {
            if (name.equals(one.substring(one.indexOf(' ') + 1, one.indexOf('(')))) {
                return true;
            }
        }
        return false;
    }

    /** Rule 4, as the compiler wrote it: Arrays.fill is for arrays of numbers, not of booleans. */
    private static void theLibrary() throws IOException {
        TreeSet<String> got = new TreeSet<>(libraryOf("FieldRows"));
        for (Class<?> one : FieldRows.class.getDeclaredClasses()) {
            got.addAll(libraryOf(one.getName()));
        }
        CHECK.same("the class files were read", "true", "" + got.contains("java/lang/Object.<init>()V"));
        for (String one : got) {
            CHECK.same(one + " is in the library that is left", "true", "" + LIBRARY.contains(one));
        }
    }

    /** The methods of the Java library that a class calls, out of the constants of its class file. */
    private static List<String> libraryOf(String name) throws IOException {
        try (InputStream file = FaceTests.class.getResourceAsStream("/" + name + ".class");
                DataInputStream in = new DataInputStream(file)) {
            in.readLong();
            Object[] constants = new Object[in.readUnsignedShort()];
            for (int k = 1; k < constants.length; k++) {
                int tag = in.readUnsignedByte();
                constants[k] = readConstant(in, tag);
                if (tag == 5 || tag == 6) {
                    k++;
                }
            }
            return libraryOf(constants);
        }
    }

    /** A text, or the places of others (a method's behind a sign that it is one), or nothing of use here. */
    private static Object readConstant(DataInputStream in, int tag) throws IOException {
        switch (tag) {
            case 1:
                return in.readUTF();
            case 7:
            case 8:
            case 16:
            case 19:
            case 20:
                return new int[] {in.readUnsignedShort()};
            case 5:
            case 6:
                return in.readLong();
            case 10:
            case 11:
                return new int[] {in.readUnsignedShort(), in.readUnsignedShort(), tag};
            case 12:
                return new int[] {in.readUnsignedShort(), in.readUnsignedShort()};
            case 15:
                return List.of(in.readUnsignedByte(), in.readUnsignedShort());
            default:
                return in.readInt();
        }
    }

    private static List<String> libraryOf(Object[] constants) {
        List<String> all = new ArrayList<>();
        for (Object constant : constants) {
            if (constant instanceof int[] method && method.length == 3) {
                Object owner = constants[((int[]) constants[method[0]])[0]];
                int[] told = (int[]) constants[method[1]];
                if (owner.toString().startsWith("java")) {
                    all.add(owner + "." + constants[told[0]] + constants[told[1]]);
                }
            }
        }
        return all;
    }

    private static void theSource(String source) {
        String code = source.replaceAll("(?s)/\\*.*?\\*/", "").replaceAll("//[^\n]*", "");
        for (String word : new String[] {"try", "catch", "finally", "synchronized", "assert", "package", "double", "float"}) {
            CHECK.same("'" + word + "' in the source", "false", "" + Pattern.compile("\\b" + word + "\\b").matcher(code).find());
        }
        for (String sign : new String[] {"->", "::", "Exact(", "System.", "@"}) {
            CHECK.same("'" + sign + "' in the source", "false", "" + code.contains(sign));
        }
        Matcher imports = Pattern.compile("(?m)^import (.*);$").matcher(code);
        List<String> all = new ArrayList<>();
        while (imports.find()) {
            all.add(imports.group(1));
        }
        CHECK.same("imports", "[java.util.Arrays, java.util.NoSuchElementException]", all.toString());
        CHECK.same("signs of ASCII alone", "true", "" + source.chars().allMatch(c -> c < 128));
        Matcher methods = Pattern.compile("(?ms)^( +)[a-z][^\n;=]*\\([^\n;=]*\\)[^\n;=]* \\{\n.*?^\\1\\}\n").matcher(code);
        while (methods.find()) {
            long lines = methods.group().lines().count();
            CHECK.same("a method's lines are at most 60", "true", "" + (lines <= 60));
        }
    }

    /** Calls share one room with all others of a run, so only constructors may make arrays and objects. */
    private static void whatIsMade(String source) {
        String calls = source.replaceAll("(?ms)^( +)(public )?[A-Z]\\w+\\([^)]*\\) \\{\n.*?^\\1\\}\n", "");
        CHECK.same("constructors are left out", "true", "" + (calls.length() < source.length()));
        for (String line : calls.split("\n")) {
            if (line.matches(".*\\bnew\\b.*") && !line.matches(" *(\\*|/\\*\\*|//).*")) {
                boolean fine = line.contains("throw new ") || line.matches(" {8}(private )?final [\\w\\[\\]]+ \\w+ = new .*");
                CHECK.same("made by an exception or with the object: " + line.trim(), "true", "" + fine);
            }
        }
    }
}
