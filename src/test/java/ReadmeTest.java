import java.nio.file.Files;
import java.nio.file.Path;
import java.util.regex.Matcher;
import java.util.regex.Pattern;

/** The example of README.md answers what stands behind its calls; it is read from the folder of the project. */
public final class ReadmeTest {
    private static final Pattern CALL = Pattern.compile("(?m)^x\\.(\\w+)\\(([^)]*)\\); +// (-?\\d+): ");

    public static void main(String[] args) throws Exception {
        Check check = new Check("ReadmeTest");
        String text = Files.readString(Path.of("README.md"));
        Run run = new Run(check, "README.md");
        int seen = 0;
        Matcher m = CALL.matcher(text);
        while (m.find()) {
            seen++;
            run.due(m.group(1) + "(" + plain(m.group(2)) + ")", Long.parseLong(m.group(3)));
        }
        int told = text.split("(?m)^x\\.", -1).length - 1;
        check.due("calls of the example that were read", seen, told);
        check.holds("there is an example", seen > 10);
        check.end();
    }

    /** One long number, as it is told in Java, becomes a decimal; others stay. */
    private static String plain(String arguments) {
        boolean isLong = arguments.endsWith("L");
        return isLong ? String.valueOf(Long.decode(arguments.substring(0, arguments.length() - 1))) : arguments;
    }
}
