import java.nio.file.Files;
import java.nio.file.Path;
import java.util.ArrayList;
import java.util.List;

/**
 * Runs whose answers a second program worked out, written by the document's words in another language: a row a call, an
 * empty line behind each run.
 */
public final class RecordedTest {
    private static final Path ROWS = Path.of("src/test/runs/recorded.txt");

    public static void main(String[] args) throws Exception {
        Checks checks = new Checks("RecordedTest");
        List<String> run = new ArrayList<>();
        for (String row : Files.readAllLines(ROWS)) {
            if (row.isEmpty()) {
                checks.run(run.toArray(new String[0]));
                run.clear();
            } else {
                run.add(row);
            }
        }
        checks.run(run.toArray(new String[0]));
        checks.end();
    }
}
