import java.nio.file.Files;
import java.nio.file.Path;
import java.util.regex.Matcher;
import java.util.regex.Pattern;

/** The calls in README.md answer the numbers that stand behind them there. */
public final class ReadmeTest {
    private static final Pattern CALL = Pattern.compile("f\\.(\\w+)\\(([-0-9, ]*)\\);\\s*(?:// (-?[0-9]+))?.*");
    private static final int MOST_ARGUMENTS = 5;

    private static int[] numbersIn(String list) {
        int[] numbers = new int[MOST_ARGUMENTS];
        int count = 0;
        for (String part : list.split(",")) {
            if (!part.isBlank()) {
                numbers[count] = Integer.parseInt(part.trim());
                count++;
            }
        }
        return numbers;
    }

    public static void main(String[] args) throws Exception {
        HullFoundry f = new HullFoundry();
        int told = 0;
        for (String line : Files.readAllLines(Path.of("README.md"))) {
            Matcher call = CALL.matcher(line);
            if (call.matches()) {
                long got = Calls.ask(f, call.group(1), numbersIn(call.group(2)));
                // a call without a number behind it is one that must be done: true
                long due = call.group(3) == null ? 1 : Long.parseLong(call.group(3));
                Check.due("README: " + line, got, due);
                told++;
            }
        }
        Check.due("README has calls", told > 5, true);
        Check.end();
    }
}
