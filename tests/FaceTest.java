import java.io.IOException;
import java.lang.reflect.Constructor;
import java.lang.reflect.Field;
import java.lang.reflect.Method;
import java.lang.reflect.Modifier;
import java.nio.file.Files;
import java.nio.file.Path;
import java.util.ArrayList;
import java.util.Arrays;
import java.util.List;
import java.util.Set;
import java.util.TreeSet;
import java.util.regex.Matcher;
import java.util.regex.Pattern;

/** The public face is the document's, read from it line by line, and nothing else is to be seen from outside. */
public final class FaceTest {
    private static final Class<?> FACE = WishMeter.class;

    public static void main(String[] args) throws IOException {
        String document = Files.readString(Path.of("../shared/DOC.md"));
        String source = Files.readString(Path.of("src/main/java/WishMeter.java"));
        List<String> lines = faceOf(document);
        Due.due("lines of the face", lines.size(), 35);
        theClass();
        constants(lines);
        constructor(lines);
        Set<String> told = methods(lines);
        nothingElse(told);
        calls(lines);
        order(lines, source);
        headings(document, source);
        Due.end();
    }

    /** What stands between the ticks, without the class's own line and its last brace. */
    private static List<String> faceOf(String document) {
        Matcher block = Pattern.compile("(?s)```java\\s+(.*?)```").matcher(document);
        if (!block.find()) return List.of();
        String[] lines = block.group(1).split("\n");
        Due.due("the first line", lines[0].equals("public final class WishMeter {") ? 1 : 0, 1);
        List<String> face = new ArrayList<>();
        for (String line : lines) {
            if (line.startsWith("    ")) face.add(line.trim());
        }
        return face;
    }

    private static void theClass() {
        Due.says("public final class WishMeter {");
        Due.due("public", Modifier.isPublic(FACE.getModifiers()) ? 1 : 0, 1);
        Due.due("final", Modifier.isFinal(FACE.getModifiers()) ? 1 : 0, 1);
        Due.due("under Object alone", FACE.getSuperclass() == Object.class ? 1 : 0, 1);
        Due.due("interfaces", FACE.getInterfaces().length, 0);
        Due.due("in no package", FACE.getPackageName().length(), 0);
    }

    private static void constants(List<String> lines) {
        Due.says("public static final int NONE = -1, BAD = -2, NO = -3, FULL = -4;");
        Matcher m = Pattern.compile("([A-Z]+) = (-\\d+)").matcher(lines.get(0));
        int many = 0;
        while (m.find()) {
            many++;
            Due.due(m.group(1), valueOf(m.group(1)), Integer.parseInt(m.group(2)));
        }
        Due.due("constants", many, 4);
        int seen = 0;
        for (Field f : FACE.getDeclaredFields()) {
            if (!Modifier.isPrivate(f.getModifiers())) seen++;
        }
        Due.due("fields to be seen", seen, 4);
    }

    private static long valueOf(String name) {
        try {
            Field f = FACE.getDeclaredField(name);
            int all = Modifier.PUBLIC | Modifier.STATIC | Modifier.FINAL;
            Due.due("how " + name + " is told", f.getModifiers(), all);
            Due.due("an int", f.getType() == int.class ? 1 : 0, 1);
            return f.getInt(null);
        } catch (ReflectiveOperationException e) {
            return 0;
        }
    }

    private static void constructor(List<String> lines) {
        Due.says("public WishMeter();");
        Due.due("its place", lines.indexOf("public WishMeter();"), 1);
        Constructor<?>[] made = FACE.getDeclaredConstructors();
        Due.due("constructors", made.length, 1);
        Due.due("its parameters", made[0].getParameterCount(), 0);
        Due.due("public", Modifier.isPublic(made[0].getModifiers()) ? 1 : 0, 1);
        Due.due("told exceptions", made[0].getExceptionTypes().length, 0);
    }

    private static Set<String> methods(List<String> lines) {
        Set<String> told = new TreeSet<>();
        for (String line : lines.subList(2, lines.size())) {
            Due.says(line);
            Matcher m = Pattern.compile("public (int|long) (\\w+)\\((.*)\\);").matcher(line);
            Due.due("a method's line", m.matches() ? 1 : 0, 1);
            String[] parameters = m.group(3).isEmpty() ? new String[0] : m.group(3).split(", ");
            for (String one : parameters) Due.due("an int", one.startsWith("int ") ? 1 : 0, 1);
            told.add(m.group(2));
            method(m.group(1), m.group(2), parameters.length);
        }
        Due.due("methods", told.size(), 33);
        return told;
    }

    private static void method(String type, String name, int parameters) {
        Class<?>[] types = new Class<?>[parameters];
        Arrays.fill(types, int.class);
        try {
            Method m = FACE.getDeclaredMethod(name, types);
            Due.due("public, and no more", m.getModifiers(), Modifier.PUBLIC);
            Due.due("answers " + type, m.getReturnType().getName().equals(type) ? 1 : 0, 1);
            Due.due("told exceptions", m.getExceptionTypes().length, 0);
        } catch (NoSuchMethodException e) {
            Due.due("there is no such method", 0, 1);
        }
    }

    private static void nothingElse(Set<String> told) {
        Due.says("## The public face");
        int seen = 0;
        for (Method m : FACE.getDeclaredMethods()) {
            if (!Modifier.isPrivate(m.getModifiers())) seen++;
            else Due.due("the private " + m.getName() + " bears a public name", told.contains(m.getName()) ? 1 : 0, 0);
        }
        Due.due("methods to be seen", seen, told.size());
        for (Class<?> inside : FACE.getDeclaredClasses()) {
            Due.due(inside + " is private", Modifier.isPrivate(inside.getModifiers()) ? 1 : 0, 1);
            Due.due(inside + " is static", Modifier.isStatic(inside.getModifiers()) ? 1 : 0, 1);
        }
    }

    /** The tests that ask by names ask all of them. */
    private static void calls(List<String> lines) {
        for (int k = 2; k < lines.size(); k++) {
            String name = Calls.NAMES.get(k - 2);
            Due.due(name + " in Calls", lines.get(k).contains(" " + name + "(") ? 1 : 0, 1);
            int parameters = lines.get(k).endsWith("();") ? 0 : lines.get(k).split(",").length;
            Due.due("numbers of " + name + " in Calls", Calls.ranges(name).length(), parameters);
        }
    }

    /** The source tells the face by the document's words, in its order. */
    private static void order(List<String> lines, String source) {
        int at = 0;
        for (String line : lines) {
            String told = line.replaceAll("\\(\\);$", "() {").replaceAll("\\);$", ") {");
            int next = source.indexOf("    " + told, at);
            Due.due(told + " stands in its place", next >= 0 ? 1 : 0, 1);
            at = Math.max(at, next);
        }
    }

    private static void headings(String document, String source) {
        Matcher m = Pattern.compile("Ahead of the calls (`.*`) the interface says: (----.*)\\.").matcher(document);
        int many = 0;
        int last = 0;
        while (m.find()) {
            Due.says(m.group());
            many++;
            int heading = source.indexOf("// " + m.group(2) + "\n");
            Due.due("the heading is ahead of its calls, behind those of others", heading > last ? 1 : 0, 1);
            last = heading;
            for (String call : m.group(1).replace("`", "").split(", ")) {
                Matcher method = Pattern.compile("public (int|long) " + call + "\\(").matcher(source);
                Due.due(call + " stands behind it", method.find(last) ? 1 : 0, 1);
                last = method.start();
            }
        }
        Due.due("headings", many, 5);
    }
}
