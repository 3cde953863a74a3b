import java.nio.file.Files;
import java.nio.file.Path;
import java.util.regex.Matcher;
import java.util.regex.Pattern;

/** README.md's lines of use: each call must answer the number behind it. */
public final class ReadmeTest {
    private static final Pattern LINE = Pattern.compile("yard\\.(\\w+)\\(([^)]*)\\);\\s+// (-?\\d+)\\b.*");

    public static void main(String[] args) throws Exception {
        Due due = new Due();
        TopYard yard = new TopYard();
        int lines = 0;
        for (String line : Files.readString(readme()).split("\n")) {
            Matcher m = LINE.matcher(line);
            if (m.matches()) {
                String call = m.group(1) + " " + m.group(2).replace(",", "");
                due.is(Face.promise(call), "README: " + line, Face.call(yard, call), Long.parseLong(m.group(3)));
                lines++;
            }
        }
        due.is(1, "README: are there lines of use", lines > 20 ? 1 : 0, 1);
        due.end();
    }

    private static Path readme() {
        Path source = Path.of(System.getProperty("topyard.source", "src/main/java/TopYard.java")).toAbsolutePath();
        return source.resolve("../../../../README.md").normalize();
    }
}
