import java.io.IOException;
import java.nio.file.Files;
import java.nio.file.Path;
import java.util.ArrayList;
import java.util.List;
import java.util.Set;
import java.util.TreeSet;
import java.util.regex.Matcher;
import java.util.regex.Pattern;
import java.util.stream.Stream;

/** What README.md says is so: its examples answer as they tell, its table is the document's, its tests are there. */
public final class ReadmeTest {
    private static final Pattern CALL = Pattern.compile("x\\.(\\w+)\\((.*)\\); +// (-?\\d+).*");
    private static final Pattern TYPED =
        Pattern.compile("for \\(char c : \"(.*)\".toCharArray\\(\\)\\) x.type\\(c\\);");

    public static void main(String[] args) throws IOException {
        String readme = Files.readString(Path.of("README.md"));
        String document = Files.readString(Path.of("../shared/DOC.md"));
        examples(readme);
        table(readme, document);
        numbers(readme);
        tests(readme);
        Due.end();
    }

    private static void examples(String readme) {
        Matcher m = Pattern.compile("(?s)```java\n(.*?)```").matcher(readme);
        int many = 0;
        while (m.find()) {
            String[] lines = m.group(1).split("\n");
            Due.due("it is made", lines[0].equals("WishMeter x = new WishMeter();") ? 1 : 0, 1);
            WishMeter x = new WishMeter();
            for (int k = 1; k < lines.length; k++) line(x, lines[k]);
            many++;
        }
        Due.due("examples", many, 2);
    }

    private static void line(WishMeter x, String line) {
        Matcher typed = TYPED.matcher(line);
        Matcher call = CALL.matcher(line);
        if (typed.matches()) {
            for (char c : typed.group(1).toCharArray()) x.type(c);
        } else if (call.matches()) {
            String told = call.group(2).replace("WishMeter.NONE", "-1");
            String[] parts = told.isEmpty() ? new String[0] : told.split(", ");
            int[] values = new int[parts.length];
            for (int k = 0; k < values.length; k++) values[k] = Integer.parseInt(parts[k]);
            Due.due("README: " + line, Calls.ask(x, call.group(1), values), Integer.parseInt(call.group(3)));
        } else {
            Due.due("README, a line that is no call: " + line, 0, 1);
        }
    }

    /** Rows are the document's calls, in its order, each refused as its promise tells. */
    private static void table(String readme, String document) {
        List<String> rows = new ArrayList<>();
        Matcher m = Pattern.compile("(?m)^\\| `(\\w+\\(.*?\\))` \\| .* \\| ?(.*?) ?\\|$").matcher(readme);
        while (m.find()) rows.add(m.group(1) + " " + m.group(2));
        List<String> promised = new ArrayList<>();
        m = Pattern.compile("(?m)^`(?:int|long) (\\w+\\(.*?\\))`: (.*)$").matcher(document);
        while (m.find()) promised.add(m.group(1).replace("int ", "") + " " + refusals(m.group(2)));
        Due.due("promised calls", promised.size(), 33);
        Due.due("rows", rows.size(), 33);
        for (int k = 0; k < promised.size() && k < rows.size(); k++) {
            Due.due("row " + rows.get(k) + " for " + promised.get(k), rows.get(k).equals(promised.get(k)) ? 1 : 0, 1);
        }
    }

    /** Status tells what it counts, and behind its own answer what it counts as. */
    private static String refusals(String promise) {
        int own = promise.indexOf("-1: another what");
        if (own > 0) return refusals(promise.substring(own).replace("-1: another what", ""));
        List<String> told = new ArrayList<>();
        for (String word : new String[] {"BAD", "NO", "FULL"}) {
            if (Pattern.compile("\\b" + word + "\\b").matcher(promise).find()) told.add(word);
        }
        return String.join(", ", told);
    }

    private static void numbers(String readme) {
        Due.due("BAD", readme.contains("`WishMeter.BAD` (" + WishMeter.BAD + ")") ? 1 : 0, 1);
        Due.due("NO", readme.contains("`WishMeter.NO` (" + WishMeter.NO + ")") ? 1 : 0, 1);
        Due.due("FULL", readme.contains("`WishMeter.FULL` (" + WishMeter.FULL + ")") ? 1 : 0, 1);
        Due.due("NONE", readme.contains("`WishMeter.NONE` (" + WishMeter.NONE + ")") ? 1 : 0, 1);
    }

    private static void tests(String readme) throws IOException {
        Set<String> named = new TreeSet<>();
        Matcher m = Pattern.compile("`(\\w+)`").matcher(readme.substring(readme.indexOf("## How the tests are run")));
        while (m.find()) {
            if (Character.isUpperCase(m.group(1).charAt(0))) named.add(m.group(1));
        }
        named.remove("FAIL");
        Set<String> there = new TreeSet<>();
        try (Stream<Path> files = Files.list(Path.of("tests"))) {
            files.forEach(f -> there.add(f.getFileName().toString().replace(".java", "")));
        }
        Due.due("named " + named + ", there " + there, named.equals(there) ? 1 : 0, 1);
        Due.due("the script can be run", Files.isExecutable(Path.of(".ci/run")) ? 1 : 0, 1);
    }
}
