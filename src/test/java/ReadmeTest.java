import java.lang.reflect.Method;
import java.lang.reflect.Modifier;
import java.nio.file.Files;
import java.nio.file.Path;
import java.util.ArrayList;
import java.util.List;
import java.util.regex.Matcher;
import java.util.regex.Pattern;

/** The calls that README.md shows answer what stands behind them; its table names each call of the face. */
public final class ReadmeTest {
    private static final Pattern SHOWN = Pattern.compile("m\\.(\\w+)\\(([^)]*)\\);\\s*// (\\S+).*");

    public static void main(String[] args) throws Exception {
        Checks checks = new Checks("ReadmeTest");
        List<String> rows = new ArrayList<>();
        StringBuilder table = new StringBuilder();
        for (String line : Files.readAllLines(Path.of("README.md"))) {
            Matcher shown = SHOWN.matcher(line);
            if (shown.matches()) {
                rows.add(shown.group(1) + numbers(shown.group(2)) + " -> " + due(shown.group(1), shown.group(3)));
            } else if (line.startsWith("|")) {
                table.append(line);
            }
        }
        checks.run(rows.toArray(new String[0]));
        checks.due("calls shown", true, rows.size() > 9);
        for (Method m : MotionSigns.class.getDeclaredMethods()) {
            if (Modifier.isPublic(m.getModifiers())) {
                checks.due("the table names " + m.getName(), true, table.toString().matches(".*`" + m.getName() + "[`(].*"));
            }
        }
        checks.end();
    }

    private static String numbers(String told) {
        StringBuilder out = new StringBuilder();
        for (String n : told.isEmpty() ? new String[0] : told.split(", ")) {
            out.append(' ').append(Long.decode(n).intValue());
        }
        return out.toString();
    }

    /** Of a text with a fault the runs tell its place, too; those shown have theirs at the beginning. */
    private static String due(String call, String answer) {
        return answer.startsWith("-") && List.of("equation", "field", "solution").contains(call) ? answer + " @0" : answer;
    }
}
