import java.io.IOException;
import java.nio.file.Files;
import java.nio.file.Path;
import java.util.HashMap;
import java.util.HashSet;
import java.util.Map;
import java.util.Set;
import java.util.regex.Matcher;
import java.util.regex.Pattern;

/** What of ../shared/LANGUAGE.md can be seen in the text of the class. */
public final class LanguageTest {
    private static final Set<String> LIBRARY =
        Set.of("Math.max", "Math.min", "Math.abs", "Integer.bitCount", "Long.bitCount", "System.arraycopy");

    private static String code;

    public static void main(String[] args) throws IOException {
        String text = Files.readString(Path.of(System.getProperty("source", "src/main/java/HamperByWeather.java")));
        Due.is("signs above 127", text.chars().filter(c -> c > 127).count(), 0);
        code = text.replaceAll("(?s)/\\*.*?\\*/", "").replaceAll("//[^\n]*", "").replaceAll("'\\\\?.'", "0")
            .replaceAll("\"[^\"\n]*\"", "TEXT");
        words();
        face();
        classes();
        library();
        methods();
        Due.close();
    }

    private static int times(String pattern) {
        Matcher matcher = Pattern.compile(pattern).matcher(code);
        int times = 0;
        while (matcher.find()) {
            times++;
        }
        return times;
    }

    private static void words() {
        String[] none = {"\\bthrows?\\b", "\\btry\\b", "\\bcatch\\b", "\\bsynchronized\\b", "\\bassert\\b", "\\bimport\\b",
            "\\bpackage\\b", "\\bprotected\\b", "->", "::", "\\bvar\\b", "\\binstanceof\\b", "\\bnative\\b", "\\bvolatile\\b",
            "\\bExact\\b", "\\bfloat\\b", "\\bdouble\\b", "TEXT", "while \\(true\\)", "for \\(;;\\)", "static \\{",
            "\\bstatic (?!final )(int|long|boolean|char|String)(\\[\\])? \\w+ ?[=;]"};
        for (String word : none) {
            Due.is("rule 3 to 6: " + word, times(word), 0);
        }
    }

    private static void face() {
        Due.is("rule 1: public", times("\\bpublic\\b"), 47);
        Set<String> open = new HashSet<>();
        Matcher matcher = Pattern.compile("public (?:int|long) (\\w+)\\(").matcher(code);
        while (matcher.find()) {
            open.add(matcher.group(1));
        }
        Due.is("rule 1: public names", open.size(), 45);
        Matcher others = Pattern.compile("\n ++(?!public |return |else |new )[\\w\\[\\] ]+ (\\w+)\\([^;{}]*\\) \\{").matcher(code);
        int seen = 0;
        while (others.find()) {
            seen++;
            Due.is("rule 1: no other method is named " + others.group(1), open.contains(others.group(1)) ? 1 : 0, 0);
        }
        Due.is("rule 1: other methods seen", seen > 60 ? 1 : 0, 1);
        String outer = code.substring(0, code.indexOf("private static final class"));
        for (String line : outer.split("\n")) {
            boolean member = line.matches(" {4}\\w.*");
            Due.is("rule 1: " + line, member && !line.matches(" {4}(public|private) .*") ? 1 : 0, 0);
        }
    }

    private static void classes() {
        int inside = times("\\bclass\\b") - 1;
        Due.is("rule 2: classes inside are static", times(" {4}private static final class "), inside);
        Due.is("rule 11: some twelve classes", inside + 1 <= 12 ? 1 : 0, 1);
        for (String part : code.split("\\bclass ")) {
            Matcher fields = Pattern.compile("\n +private (final )?[\\w\\[\\]]+ \\w+( = [^;]*)?;").matcher(part);
            int n = 0;
            while (fields.find()) {
                n++;
            }
            Due.is("rule 11: some twenty fields of " + part.split(" ")[0], n <= 20 ? 1 : 0, 1);
        }
    }

    private static void library() {
        Matcher matcher = Pattern.compile("\\b(Math|Integer|Long|System|Arrays|String|List|Boolean|Character|Object)\\b\\.?\\w*")
            .matcher(code);
        while (matcher.find()) {
            Due.is("rule 4: " + matcher.group(), LIBRARY.contains(matcher.group()) ? 1 : 0, 1);
        }
    }

    private static void methods() {
        Map<String, Integer> longest = new HashMap<>();
        String name = "";
        int lines = 0;
        for (String line : code.split("\n")) {
            Matcher head = Pattern.compile(" {4,8}[\\w\\[\\] ]*?(\\w+)\\(([^)]*)\\) \\{").matcher(line);
            if (head.matches()) {
                name = head.group(1);
                lines = 0;
                Due.is("rule 11: parameters of " + name, head.group(2).split(",").length <= 7 ? 1 : 0, 1);
            }
            lines++;
            if (line.matches(" {4,8}\\}")) {
                longest.merge(name, lines, Math::max);
                lines = 0;
            }
        }
        for (Map.Entry<String, Integer> one : longest.entrySet()) {
            Due.is("rule 11: lines of " + one.getKey(), one.getValue() <= 60 ? 1 : 0, 1);
        }
        Due.is("rule 11: methods seen", longest.size() > 100 ? 1 : 0, 1);
    }
}
