import java.io.IOException;
import java.nio.file.Files;
import java.nio.file.Path;
import java.util.regex.Matcher;
import java.util.regex.Pattern;

/** The run of calls in README.md answers what stands there behind each call. */
final class ReadmeTest {
    private static final Pattern ROW = Pattern.compile("rods\\.(\\w+)\\((.*)\\); +// (-?\\d+)(:.*)?");
    private static final String BEGIN = "```java";
    private static final String END = "```";

    private final Checks checks = new Checks();
    private final RingRods rods = new RingRods();
    private int rows;

    public static void main(String[] args) throws IOException {
        ReadmeTest test = new ReadmeTest();
        boolean inRun = false;
        for (String line : Files.readAllLines(Path.of("README.md"))) {
            if (line.equals(END)) {
                inRun = false;
            }
            if (inRun) {
                test.row(line);
            }
            inRun = inRun || line.equals(BEGIN);
        }
        // a page in another form would leave nothing to be compared
        test.checks.due("rows are found", Math.min(10, test.rows), 10);
        test.checks.end();
    }

    private void row(String line) {
        if (line.startsWith("RingRods rods = new RingRods();")) {
            return;
        }
        Matcher row = ROW.matcher(line);
        checks.due("'" + line + "' is a call and its answer", row.matches() ? 1 : 0, 1);
        if (row.matches()) {
            rows++;
            checks.due(line, new Call(row.group(1), arguments(row.group(2))).on(rods), Integer.parseInt(row.group(3)));
        }
    }

    private static int[] arguments(String told) {
        if (told.isEmpty()) {
            return new int[0];
        }
        String[] each = told.split(", ");
        int[] arguments = new int[each.length];
        for (int at = 0; at < each.length; at++) {
            boolean isSign = each[at].startsWith("'");
            arguments[at] = isSign ? each[at].charAt(1) : Integer.parseInt(each[at]);
        }
        return arguments;
    }
}
