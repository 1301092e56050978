import java.io.IOException;
import java.lang.reflect.Field;
import java.lang.reflect.Modifier;
import java.nio.file.Files;
import java.nio.file.Path;
import java.util.ArrayList;
import java.util.LinkedHashMap;
import java.util.List;
import java.util.Map;
import java.util.Set;
import java.util.TreeSet;
import java.util.regex.Matcher;
import java.util.regex.Pattern;

/** What of ../shared/LANGUAGE.md can be seen from the source's words alone, or from the class as it is compiled. */
public final class RulesTest {
    private static final String[] NEVER = {"throw", "throws", "try", "catch", "synchronized", "assert", "instanceof",
        "import", "package", "protected", "finally", "volatile", "var", "double", "float", "Object",
        "equals", "hashCode", "toString", "String", "StringBuilder", "ArrayList", "List"};
    private static final Set<String> LIBRARY = Set.of("Math.max", "Math.min", "System.arraycopy");
    private static final int MOST_CLASSES = 12, MOST_FIELDS = 20, MOST_LINES = 60, MOST_PARAMETERS = 7, MOST_DEEP = 8;

    public static void main(String[] args) throws IOException {
        String source = Files.readString(Path.of("src/main/java/WishMeter.java"));
        String code = source.replaceAll("(?s)/\\*.*?\\*/", "").replaceAll("//[^\n]*", "")
            .replaceAll("'(\\\\.|[^'])'", "0").replaceAll("\"(\\\\.|[^\"])*\"", "0");
        Due.due("signs over 127", source.chars().filter(c -> c > 127).count(), 0);
        for (String word : NEVER) Due.due("uses of " + word, count("\\b" + word + "\\b", code), 0);
        Due.due("lambdas", count("->", code), 0);
        Due.due("method references", count("::", code), 0);
        library(code);
        classes(code);
        made(code);
        fields(WishMeter.class);
        for (Class<?> inside : WishMeter.class.getDeclaredClasses()) fields(inside);
        Map<String, String> methods = methods(code);
        depths(methods);
        Due.end();
    }

    private static int count(String form, String code) {
        Matcher m = Pattern.compile(form).matcher(code);
        int many = 0;
        while (m.find()) many++;
        return many;
    }

    /** A name with a great letter ahead of a dot is a class of the library, or one inside. */
    private static void library(String code) {
        Matcher m = Pattern.compile("\\b[A-Z]\\w*[a-z]\\w*\\.\\w+").matcher(code);
        while (m.find()) {
            boolean own = count("class " + m.group().replaceAll("\\..*", "") + "\\b", code) == 1;
            Due.due(m.group() + " is no call that is listed", own || LIBRARY.contains(m.group()) ? 0 : 1, 0);
        }
    }

    private static void classes(String code) {
        Due.due("classes inside that are not private and static",
            count("\\b(class|record|enum|interface)\\b", code) - 1,
            count("private static final class\\b", code));
        Due.due("too many classes", count("\\bclass\\b", code) > MOST_CLASSES ? 1 : 0, 0);
    }

    /** Rows are made with the objects that have them; an image's, the first time. */
    private static void made(String code) {
        int inFields = count("(?m)^ +(private )?final [\\w\\[\\]]+ \\w+ = new [^\n]*;$", code);
        Due.due("things made in methods", count("\\bnew\\b", code) - inFields, 1);
        Due.due("an image's", count("if \\(images\\[i\\] == null\\) images\\[i\\] = new Pipe\\(\\);", code), 1);
    }

    private static void fields(Class<?> of) {
        int many = 0;
        for (Field f : of.getDeclaredFields()) {
            boolean constant = Modifier.isFinal(f.getModifiers()) && f.getType() == int.class;
            if (!Modifier.isStatic(f.getModifiers())) many++;
            else Due.due(f + " is a constant", constant ? 1 : 0, 1);
        }
        Due.due(of + " has too many fields", many > MOST_FIELDS ? 1 : 0, 0);
    }

    /** Each method's own text, by its name; of one name there is one. */
    private static Map<String, String> methods(String code) {
        Map<String, String> all = new LinkedHashMap<>();
        Matcher m = Pattern.compile("(?m)^( +)[\\w\\[\\] ]+ (\\w+)\\(([^()]*)\\) \\{$").matcher(code);
        while (m.find()) {
            int end = code.indexOf("\n" + m.group(1) + "}", m.end());
            int lines = code.substring(m.start(), end).split("\n").length;
            Due.due(m.group(2) + " has too many lines", lines > MOST_LINES ? 1 : 0, 0);
            Due.due(m.group(2) + " has too many parameters", m.group(3).split(",").length > MOST_PARAMETERS ? 1 : 0, 0);
            Due.due(m.group(2) + " is there twice", all.containsKey(m.group(2)) ? 1 : 0, 0);
            all.put(m.group(2), code.substring(m.end(), end));
        }
        Due.due("methods were seen", all.size() > 33 ? 1 : 0, 1);
        return all;
    }

    private static void depths(Map<String, String> methods) {
        List<String> selves = new ArrayList<>();
        for (String name : methods.keySet()) {
            if (calls(name, methods).contains(name)) selves.add(name);
            Due.due(name + " goes too deep", depth(name, methods, 1) > MOST_DEEP ? 1 : 0, 0);
        }
        Due.due("the only one that calls itself " + selves, selves.equals(List.of("choose")) ? 1 : 0, 1);
    }

    /** With calls of the library as one level more; far too deep, if methods call one another in a ring. */
    private static int depth(String name, Map<String, String> methods, int above) {
        if (above > 2 * MOST_DEEP) return above;
        int most = above;
        if (count("\\b(Math|System)\\.", methods.get(name)) > 0) most++;
        for (String next : calls(name, methods)) {
            if (!next.equals(name)) most = Math.max(most, depth(next, methods, above + 1));
        }
        return most;
    }

    private static Set<String> calls(String name, Map<String, String> methods) {
        Set<String> all = new TreeSet<>();
        Matcher m = Pattern.compile("(?<!new )\\b(\\w+)\\(").matcher(methods.get(name));
        while (m.find()) {
            if (methods.containsKey(m.group(1))) all.add(m.group(1));
        }
        return all;
    }
}
