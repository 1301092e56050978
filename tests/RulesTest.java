import java.io.IOException;
import java.nio.file.Files;
import java.nio.file.Path;
import java.util.regex.Matcher;
import java.util.regex.Pattern;

/** What of ../shared/LANGUAGE.md can be seen from the source's words alone. */
public final class RulesTest {
    private static final String[] NEVER = {"throw", "throws", "try", "catch", "synchronized", "assert", "instanceof",
        "import", "package", "protected", "finally", "volatile", "var", "System\\.out", "System\\.nanoTime",
        "System\\.currentTimeMillis", "Random", "Thread", "equals", "hashCode", "toString", "Exact"};

    public static void main(String[] args) throws IOException {
        String source = Files.readString(Path.of("src/main/java/WishMeter.java"));
        String code = source.replaceAll("(?s)/\\*.*?\\*/", "").replaceAll("//[^\n]*", "")
            .replaceAll("'(\\\\.|[^'])'", "0").replaceAll("\"(\\\\.|[^\"])*\"", "0");
        Due.due("signs over 127", source.chars().filter(c -> c > 127).count(), 0);
        for (String word : NEVER) Due.due("uses of " + word, count("\\b" + word + "\\b", code), 0);
        Due.due("lambdas", count("->", code), 0);
        Due.due("method references", count("::", code), 0);
        Due.due("classes inside that are not private and static",
            count("\\b(class|record|enum|interface)\\b", code) - 1,
            count("private static (final )?(class|record|enum|interface)\\b", code));
        Due.due("too many classes", count("\\bclass\\b", code) > 12 ? 1 : 0, 0);
        Due.due("static fields that are not constants",
            count("static (?!final )(int|long|boolean|String|byte)(\\[\\])? \\w+( =|;)", code), 0);
        Due.due("things made in methods", count("\\bnew \\w+", code) - count("= new \\w+", code), 0);
        lengths(code);
        Due.end();
    }

    private static int count(String form, String code) {
        Matcher m = Pattern.compile(form).matcher(code);
        int many = 0;
        while (m.find()) many++;
        return many;
    }

    private static void lengths(String code) {
        Matcher m = Pattern.compile("(?m)^( +)[\\w\\[\\] ]+ (\\w+)\\(([^()]*)\\) \\{$").matcher(code);
        int methods = 0;
        while (m.find()) {
            int end = code.indexOf("\n" + m.group(1) + "}", m.end());
            int lines = code.substring(m.start(), end).split("\n").length;
            Due.due(m.group(2) + " has too many lines", lines > 60 ? 1 : 0, 0);
            Due.due(m.group(2) + " has too many parameters", m.group(3).split(",").length > 7 ? 1 : 0, 0);
            methods++;
        }
        Due.due("methods were seen", methods > 33 ? 1 : 0, 1);
    }
}
