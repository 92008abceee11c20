import java.io.IOException;
import java.nio.file.Files;
import java.nio.file.Path;
import java.util.regex.Matcher;
import java.util.regex.Pattern;

/** The calls of the README's Java example have the answers with which their comments begin. */
public final class ReadmeTest extends Checks {
    private static final String FENCE = "```";
    private static final String NEW = "RationalFormulas f = new RationalFormulas();";
    private static final Pattern CALL = Pattern.compile("f\\.(\\w+\\(.*\\)); +// (-?\\d+|true|false)\\b.*");

    public static void main(String[] args) throws IOException {
        sentence("README.md");
        int calls = 0;
        boolean inExample = false;
        RationalFormulas f = null;
        for (String line : Files.readAllLines(Path.of("README.md"))) {
            if (line.startsWith(FENCE)) {
                inExample = line.equals(FENCE + "java");
            } else if (inExample && line.equals(NEW)) {
                f = new RationalFormulas();
            } else if (inExample && !line.isEmpty()) {
                checkLine(f, line);
                calls++;
            }
        }
        due("the example has calls", calls > 0, true);
        finish();
    }

    private static void checkLine(RationalFormulas f, String line) {
        Matcher matcher = CALL.matcher(line);
        boolean isCall = f != null && matcher.matches();
        due("a call of a new object, with its answer: " + line, isCall, true);
        if (isCall) {
            due(line, call(f, matcher.group(1)), number(matcher.group(2)));
        }
    }

    /** The answer as call tells it: true counts 1, false 0. */
    private static int number(String answer) {
        switch (answer) {
            case "true": return 1;
            case "false": return 0;
            default: return Integer.parseInt(answer);
        }
    }
}
