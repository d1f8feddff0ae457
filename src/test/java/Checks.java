import java.lang.reflect.InvocationTargetException;
import java.lang.reflect.Method;
import java.util.ArrayList;
import java.util.Arrays;
import java.util.List;

/**
 * Rows of a call and the answer that is due, told as texts: "number 1 0 0 100 -> 1", "field: x=x; -> 1" (a text that is
 * fed and read whole), "field: x=p; -> -9 @2" (@ and the place of the fault; @; that of the first ;), "tape: flow q; ->
 * 20" (fed alone, with blanks behind it), "fields 3 -> throws.IllegalArgumentException".
 */
final class Checks {
    static final String STATE = "throws.IllegalStateException";
    static final String ARGUMENT = "throws.IllegalArgumentException";
    static final String ELEMENT = "throws.NoSuchElementException";
    private static final List<String> TELLING = List.of("equation", "field", "solution");
    private static final List<String> MOVING = List.of("feed", "tape", "equation", "field", "solution", "image", "restore");
    private static final String[] OF_EQUATION = {
        "told 0", "told 1", "told 2", "term 0", "term 100000", "term 10000", "term 1000", "term 100", "term 10", "term 1",
        "term 2000", "fields 0", "fields 1", "fields 2", "fields 3", "closed 1", "closed 2", "closed 3", "kind 1 0",
        "kind 1 1", "kind 1 2", "kind 1 3", "number 1 1 0 100", "number 1 1 1 10", "number 2 0 2 1", "constant 1 0 1 0 0",
        "constant 1 0 1 0 1", "steps 1 0 1", "bracket 1 0 1", "stretches", "stretch 0 0", "stretch 0 1", "stretch 0 2",
        "keeps 0 -1 0", "keeps 0 0 0", "keeps 0 0 2", "sums 1", "sums 2", "sums 3", "sums 4", "sum 3 0 1 0", "wave 3 100",
        "wave 3 10", "lines 0", "lines 1", "lines 2"};
    private static final String[] OF_FIELD = {"rest 0", "rest 1", "leaves", "within 0", "within 1", "within 2", "within 3"};
    private static final String[] OF_SOLUTION = {
        "solves", "left 0 0", "left 1 0", "left 2 0", "left 0 1", "shifted 1 0", "shifted 0 1", "stretched 0 2",
        "stretched 1 2"};
    private final String name;
    private int checks;
    private int wrong;

    Checks(String name) {
        this.name = name;
    }

    void end() {
        System.out.println(name + ": " + checks + " checks, " + wrong + " wrong");
        if (wrong != 0 || checks == 0) {
            System.exit(1);
        }
    }

    void due(String where, Object want, Object got) {
        checks++;
        if (!String.valueOf(want).equals(String.valueOf(got))) {
            wrong++;
            StackWalker.getInstance().forEach(f -> {
                if (f.getClassName().equals(name)) {
                    System.out.print(f.getLineNumber() + " ");
                }
            });
            System.out.println(name + ": " + where + " answered " + got + ", due is " + want);
        }
    }

    /** Feeds a text and a filler behind it up to whole calls; answers what the last call answered. */
    static int feed(Object m, String text, char filler) {
        String last = "0";
        for (int i = 0; i < text.length(); i += 20) {
            StringBuilder call = new StringBuilder("feed");
            for (int j = i; j < i + 20; j += 4) {
                int word = 0;
                for (int k = j; k < j + 4; k++) {
                    word = word << 8 | (k < text.length() ? text.charAt(k) : filler) & 255;
                }
                call.append(' ').append(word);
            }
            last = ask(m, call.toString());
        }
        return Integer.parseInt(last);
    }

    /** Makes a call on the class or on its model: what it answered, or "throws." and the exception's name. */
    static String ask(Object m, String call) {
        int colon = call.indexOf(':');
        if (colon >= 0) {
            String text = call.length() > colon + 2 ? call.substring(colon + 2) : "";
            if (call.startsWith("tape:")) {
                return String.valueOf(feed(m, text, ' '));
            }
            feed(m, text, '\0');
            return ask(m, call.substring(0, colon) + " " + text.length());
        }
        String[] words = call.trim().split(" ");
        Object[] numbers = Arrays.stream(words).skip(1).map(Integer::valueOf).toArray();
        Class<?>[] kinds = new Class<?>[numbers.length];
        Arrays.fill(kinds, int.class);
        try {
            Method method = m.getClass().getDeclaredMethod(words[0], kinds);
            return String.valueOf(method.invoke(m, numbers));
        } catch (InvocationTargetException e) {
            boolean own = e.getCause().getClass().getPackageName().startsWith("java.")
                && List.of(STATE, ARGUMENT, ELEMENT).contains("throws." + e.getCause().getClass().getSimpleName());
            return own ? "throws." + e.getCause().getClass().getSimpleName() : "machine." + e.getCause();
        } catch (ReflectiveOperationException e) {
            throw new AssertionError(call, e);
        }
    }

    /** As ask, and of a text that was read the place of its fault, too. */
    private static String told(MotionSigns m, String call) {
        String got = ask(m, call);
        boolean read = TELLING.contains(call.split("[ :]")[0]) && !got.startsWith("throws.");
        return read && (got.startsWith("-") || m.fault() != -1) ? got + " @" + m.fault() : got;
    }

    static MotionSigns after(String... calls) {
        MotionSigns m = new MotionSigns();
        for (String call : calls) {
            ask(m, call);
        }
        return m;
    }

    private static String callOf(String row) {
        return row.substring(0, row.lastIndexOf(" -> "));
    }

    private static String dueOf(String row) {
        int colon = row.indexOf(':') + 2;
        return row.substring(row.lastIndexOf(" -> ") + 4).replace("@;", "@" + (row.indexOf(';') - colon));
    }

    /** All rows one after the other on one object. */
    void run(String... rows) {
        MotionSigns m = new MotionSigns();
        List<String> made = new ArrayList<>();
        for (String row : rows) {
            made.add(callOf(row));
            due(String.join(" / ", made), dueOf(row), told(m, callOf(row)));
        }
    }

    /** Each row on an object of its own, that has been told some calls; what it must not change stays as it was. */
    void each(String[] told, String... rows) {
        for (String row : rows) {
            MotionSigns m = after(told);
            String got = told(m, callOf(row));
            due(Arrays.asList(told) + " " + callOf(row), dueOf(row), got);
            String stays = whatStays(callOf(row), dueOf(row));
            List<String> mine = all(m, stays);
            List<String> twins = all(after(told), stays);
            for (int i = 0; i < mine.size(); i++) {
                if (!mine.get(i).equals(twins.get(i))) {
                    due(Arrays.asList(told) + " " + callOf(row) + " and then", twins.get(i), mine.get(i));
                    break;
                }
            }
            checks++;
        }
    }

    /** Which parts of all that can be seen a call leaves as they were. */
    private static String whatStays(String call, String due) {
        String word = call.split("[ :]")[0];
        boolean nothing = due.startsWith("throws.") || !MOVING.contains(word)
            || due.equals("-1") && !TELLING.contains(word);
        if (nothing) {
            return "EFSIT";
        }
        boolean fault = due.startsWith("-");
        return switch (word) {
            case "feed", "tape" -> "EFSI";
            case "equation" -> fault ? "EFSI" : "";
            case "field" -> fault ? "EFSI" : "ESI";
            case "solution" -> fault ? "EFSI" : "EFI";
            case "image" -> "EFST";
            default -> "ET";
        };
    }

    /**
     * All that can be seen of an object's parts: EQUATION, FIELD, SOLUTION, IMAGES (they are taken away), and the fault
     * and the tape (what stands on it is read as an equation).
     */
    static List<String> all(MotionSigns m, String parts) {
        List<String> out = new ArrayList<>();
        see(m, out, parts, 'E', OF_EQUATION);
        see(m, out, parts, 'F', OF_FIELD);
        see(m, out, parts, 'S', OF_SOLUTION);
        see(m, out, parts, 'T', "fault", "count 1");
        see(m, out, parts, 'I', "count 0");
        for (int i = 0; i < 4 && parts.indexOf('I') >= 0; i++) {
            see(m, out, "R", 'R', "restore");
            see(m, out, "R", 'R', OF_FIELD);
            see(m, out, "R", 'R', OF_SOLUTION);
        }
        if (parts.indexOf('T') >= 0) {
            see(m, out, "T", 'T', "equation " + ask(m, "count 1"), "fault", "told 0", "told 1", "told 2", "term 2000");
        }
        return out;
    }

    private static void see(MotionSigns m, List<String> out, String parts, char part, String... calls) {
        for (String call : calls) {
            if (parts.indexOf(part) >= 0) {
                out.add(call + " -> " + ask(m, call));
            }
        }
    }
}
