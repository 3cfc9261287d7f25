import java.nio.file.Files;
import java.nio.file.Path;
import java.util.regex.Matcher;
import java.util.regex.Pattern;

/** What can be seen of LANGUAGE.md's rules in the source's text; the first argument is its path. */
public final class LanguageTest {
    private static final Check CHECK = new Check("LanguageTest");
    private static final String[] FORBIDDEN = {
        "throw", "throws", "try", "catch", "finally", "synchronized", "assert", "package", "protected", "volatile",
        "transient", "native", "strictfp", "Object", "hashCode", "toString\\(", "Exact", "Random", "System\\.(?!arraycopy)",
        "Thread", "Math\\.random", "var", "double", "float", "->", "::", "Integer\\.[A-Z]", "Long\\.[A-Z]"};

    public static void main(String[] args) throws Exception {
        String source = Files.readString(Path.of(args.length > 0 ? args[0] : "src/main/java/RedSky.java"));
        String code = source.replaceAll("(?s)/\\*.*?\\*/", "").replaceAll("//[^\\n]*", "").replaceAll("\"[^\"]*\"", "\"\"");
        for (String word : FORBIDDEN) {
            String edged = Character.isLetter(word.charAt(0)) ? "(?<![A-Za-z0-9_])" + word : word;
            boolean isWord = word.matches("[A-Za-z]+");
            CHECK.holds("no " + word, !Pattern.compile(isWord ? edged + "(?![A-Za-z0-9_])" : edged).matcher(code).find());
        }
        CHECK.due("imports", count("(?m)^import ", code), 1);
        CHECK.due("public classes", count("public final class ", code), 1);
        CHECK.holds("classes: some twelve", count("\\bclass ", code) <= 12);
        CHECK.due("classes inside that are not static", count("\\bclass ", code) - count("static final class ", code), 1);
        for (char c : source.toCharArray()) {
            if (c != '\n' && (c < 32 || c > 126)) {
                CHECK.holds("a sign " + (int) c, false);
            }
        }
        methods(code);
        CHECK.end();
    }

    private static int count(String pattern, String text) {
        int many = 0;
        Matcher m = Pattern.compile(pattern).matcher(text);
        while (m.find()) {
            many++;
        }
        return many;
    }

    private static void methods(String code) {
        Matcher m = Pattern.compile("(?m)^( +)(?:[a-zA-Z\\[\\]]+ )+([a-zA-Z]+)\\(([^)]*)\\) \\{").matcher(code);
        int seen = 0;
        while (m.find()) {
            seen++;
            int end = code.indexOf("\n" + m.group(1) + "}\n", m.end());
            int lines = count("\n", code.substring(m.start(), end)) + 2;
            CHECK.holds(m.group(2) + " has " + lines + " lines", lines <= 60);
            int parameters = m.group(3).isEmpty() ? 0 : m.group(3).split(",").length;
            CHECK.holds(m.group(2) + " has " + parameters + " parameters", parameters <= 7);
        }
        CHECK.holds("methods were seen: " + seen, seen > 100);
    }
}
