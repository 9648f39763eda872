import java.nio.file.Files;
import java.nio.file.Path;
import java.util.ArrayList;
import java.util.List;
import java.util.regex.Matcher;
import java.util.regex.Pattern;

/** That the calls that README.md shows answer as it says. */
public final class ReadmeTest {
    private static final Pattern SHOWN = Pattern.compile("(?:tell\\(x, \"(.*)\"\\)|x\\.(\\w+\\(.*\\)));\\s+// (-?\\w+).*");

    public static void main(String[] args) throws Exception {
        List<String> rows = new ArrayList<>();
        boolean made = false;
        for (String line : Files.readAllLines(Path.of("README.md"))) {
            made = made || line.equals("MotherTowns x = new MotherTowns();");
            Matcher m = SHOWN.matcher(line);
            if (made && m.matches()) {
                rows.add((m.group(1) != null ? "'" + m.group(1) + "'" : m.group(2)) + " = " + m.group(3));
            }
        }
        Runs r = new Runs();
        r.run("README.md", rows);
        r.end();
        if (rows.size() < 10) {
            System.out.println("README.md shows too few calls: " + rows.size());
            System.exit(1);
        }
    }
}
