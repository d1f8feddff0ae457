import java.util.ArrayList;
import java.util.List;

/** Promises 1 and 7 to 32: each call on its bounds, below and above; what goes ahead of what; what stays as it was. */
public final class CallBoundsTest {
    private static final Checks CHECKS = new Checks("CallBoundsTest");
    private static final String IAE = Checks.ARGUMENT;
    private static final String ISE = Checks.STATE;
    private static final String NSEE = Checks.ELEMENT;
    private static final int[] FAR = {Integer.MIN_VALUE, -1_000_000_007, 1_000_000_007, Integer.MAX_VALUE};
    private static final String[] NEW = {"tape: flow 7*r^2+u;"};
    private static final String[] FLOW = {
        "equation: flow q;", "image", "field: u=u;", "solution: u=x;", "image", "field: x=x^2;t=t;u=u;",
        "solution: u=x^3+5*t*x;", "field: x=(", "tape: flow 7*r^2+u;"};
    private static final String[] CURVE = {
        "equation: curve 6*u^2;", "field: u=u;", "image", "field: x=x;u=-2*u;", "solution: u=x^2;", "solution: u=(",
        "tape: flow 7*r^2+u;"};
    // All calls with numbers, and how many of these each has.
    private static final String[] CALLS = {
        "told 1", "term 1", "rest 1", "leaves 0", "fields 1", "number 4", "within 1", "closed 1", "constant 5", "kind 2",
        "steps 3", "bracket 3", "stretches 0", "stretch 2", "keeps 3", "sums 1", "sum 4", "solves 0", "left 2", "shifted 2",
        "stretched 2", "wave 2", "lines 1", "count 1", "equation 1", "field 1", "solution 1", "fault 0"};

    public static void main(String[] args) {
        newOnes();
        tellings();
        powerDigits();
        degrees();
        rowsOfBases();
        formOfBases();
        constantsAndKinds();
        kindsOneByOne();
        weights();
        densities();
        solutions();
        wavesAndLines();
        imagesKept();
        counts();
        aheadOfAll();
        farOff();
        CHECKS.end();
    }

    private static void each(String[] told, String call, String... wants) {
        List<String> rows = new ArrayList<>();
        for (String want : wants) {
            String[] parts = want.split(": ");
            rows.add(call + " " + parts[0] + " -> " + parts[1]);
        }
        CHECKS.each(told, rows.toArray(new String[0]));
    }

    private static void newOnes() {
        CHECKS.run("told 0 -> 0", "told 1 -> 0", "told 2 -> 0", "told 3 -> " + IAE, "told -1 -> " + IAE, "term 0 -> 0",
            "term 444444 -> 0", "term 5 -> " + IAE, "fault -> -1", "count 0 -> 0", "count 1 -> 0", "count 2 -> -1",
            "restore -> -1",
            "image -> 1", "restore -> 0");
        // No equation goes ahead of all else.
        for (String call : CALLS) {
            String word = call.substring(0, call.length() - 2);
            int numbers = call.charAt(call.length() - 1) - '0';
            if (List.of("told", "term", "count", "equation", "fault").contains(word)) {
                continue;
            }
            for (String number : List.of(" 0", " 1", " -1", " 9", " 99999", " 2147483647", " -2147483648")) {
                CHECKS.each(NEW, word + number.repeat(numbers) + " -> " + ISE);
            }
        }
        CHECKS.each(NEW, "told 3 -> " + IAE, "told -1 -> " + IAE, "term 5 -> " + IAE, "term -1 -> " + IAE,
            "term 1000000 -> " + IAE,
            "equation 21 -> " + IAE, "equation -1 -> " + IAE, "restore -> -1", "image -> 1", "count 1 -> 20", "count 0 -> 0");
        // An equation that is none leaves it without one.
        CHECKS.run("equation: flow q -> -9 @6", "told 0 -> 0", "fields 0 -> " + ISE, "solves -> " + ISE, "equation: flow q; -> 1",
            "fields 0 -> 3", "equation: flow q -> -9 @6", "fields 0 -> 3");
    }

    private static void tellings() {
        each(FLOW, "told", "-1: " + IAE, "0: 1", "1: 1", "2: 2", "3: " + IAE);
        each(CURVE, "told", "-1: " + IAE, "0: 2", "1: 1", "2: 0", "3: " + IAE);
        each(FLOW, "rest", "-1: " + IAE, "0: 3", "1: 3", "2: " + IAE);
        each(CURVE, "rest", "-1: " + IAE, "0: 0", "1: 2", "2: " + IAE);
        String[] letters = {"x", "t", "u", "p", "q", "r"};
        int[] slopes = {0, 0, 0, 1, 2, 3};
        for (int i = 0; i < 6; i++) {
            CHECKS.run("equation: flow " + letters[i] + "; -> 1", "told 2 -> " + slopes[i]);
        }
        CHECKS.run("equation: flow 0; -> 0", "told 2 -> 0", "told 1 -> 0", "told 0 -> 1", "equation: flow r-r+p; -> 1",
            "told 2 -> 1",
            "equation: flow p*q^4*r+p^4*q; -> 2", "told 2 -> 3", "equation: curve p^4; -> 1", "told 2 -> 1",
            "equation: flow (1+x+t)*(1+u)*(1+p); -> 12", "told 1 -> 12");
        // The field of none leaves, the solution of none is 0.
        CHECKS.run("equation: flow u*p+q; -> 2", "rest 0 -> 0", "rest 1 -> 0", "leaves -> true", "within 0 -> true",
            "within 2 -> true",
            "solves -> 0", "equation: flow u+1; -> 2", "solves -> 1", "left 0 0 -> -1", "equation: curve u-x; -> 2",
            "within 3 -> true",
            "leaves -> true", "solves -> 1", "left 1 0 -> 1");
    }

    private static void powerDigits() {
        String[] told = {"equation: flow 2*x^4+3*t^4+4*u^4+5*p^4+6*q^4+7*r^4+8;", "tape: flow u;"};
        each(told, "term", "0: 8", "400000: 2", "40000: 3", "4000: 4", "400: 5", "40: 6", "4: 7", "444444: 0", "500000: " + IAE,
            "50000: " + IAE, "5000: " + IAE, "500: " + IAE, "50: " + IAE, "5: " + IAE, "9: " + IAE, "444445: " + IAE,
            "1000000: " + IAE,
            "1000004: " + IAE, "999999: " + IAE, "-1: " + IAE, "-4: " + IAE, "-400000: " + IAE);
        each(CURVE, "term", "2000: 6", "444444: 0", "2001: 0", "5000: " + IAE, "1002000: " + IAE);
        each(FLOW, "number 2 0 0", "0: 1", "3: 0", "30: 0", "300: 0", "333: 0", "4: " + IAE, "40: " + IAE, "400: " + IAE,
            "334: " + IAE,
            "1000: " + IAE, "3000: " + IAE, "-1: " + IAE, "-333: " + IAE);
        each(CURVE, "number 3 0 0", "0: 1", "333: 0", "10: 0", "30: 0", "4: " + IAE, "40: " + IAE, "400: " + IAE, "1000: " + IAE,
            "-1: " + IAE);
        String[] wave = {"equation: flow 2*u^4+3*p^4+4*q^4+5*r^4+6;", "tape: flow u;"};
        each(wave, "wave 0", "0: -6", "4000: -2", "400: -3", "40: -4", "4: -5", "4444: 0", "5000: " + IAE, "500: " + IAE,
            "50: " + IAE,
            "5: " + IAE, "10000: " + IAE, "14000: " + IAE, "-1: " + IAE, "-4000: " + IAE);
    }

    private static void degrees() {
        for (String call : List.of("fields %d", "within %d", "closed %d", "kind %d 0", "steps %d 0 0", "bracket %d 0 0",
                "number %d 0 0 0", "constant %d 0 0 0 0")) {
            for (int d : new int[] {-1, 3, 4, 9, -3, 1_000_000}) {
                CHECKS.each(FLOW, String.format(call, d) + " -> " + IAE);
            }
            for (int d : new int[] {-1, 4, 5, 9, -4, -2_000_000_000}) {
                CHECKS.each(CURVE, String.format(call, d) + " -> " + IAE);
            }
        }
        each(FLOW, "fields", "0: 3", "1: 6", "2: 8");
        each(CURVE, "fields", "0: 1", "1: 2", "2: 2", "3: 2");
        each(FLOW, "within", "0: false", "1: false", "2: false");
        each(CURVE, "within", "0: false", "1: true", "2: true", "3: true");
        each(FLOW, "closed", "0: true", "1: true", "2: false");
        each(CURVE, "closed", "0: true", "1: true", "2: true", "3: true");
        CHECKS.run("equation: curve 0; -> 0", "fields 3 -> 8", "steps 3 0 0 -> 1", "bracket 3 7 5 -> 1", "number 3 7 2 1 -> 1",
            "kind 3 0 -> 8", "constant 3 0 0 0 1 -> 1", "closed 3 -> true", "equation: flow 0; -> 0", "fields 2 -> 22",
            "fields 3 -> " + IAE, "within 3 -> " + IAE, "closed 3 -> " + IAE, "kind 3 0 -> " + IAE, "steps 3 0 0 -> " + IAE,
            "bracket 3 0 0 -> " + IAE, "number 3 0 0 0 -> " + IAE, "constant 3 0 0 0 0 -> " + IAE);
        // Of a field's degree all letters count together.
        CHECKS.run("equation: flow 0; -> 0", "field: u=x*u; -> 1", "within 1 -> false", "within 2 -> true",
            "field: u=x^2*u; -> 1",
            "leaves -> true", "within 2 -> false", "field: t=t^2; -> 1", "within 1 -> false", "within 2 -> true",
            "field: t=t*x*u; -> 1", "leaves -> true", "within 2 -> false", "equation: curve 0; -> 0", "field: x=x*u;u=u^2; -> 2",
            "within 1 -> false", "within 2 -> true");
    }

    /** Where all fields leave, the base shows the order of the unknowns. */
    private static void rowsOfBases() {
        // Of flow 0: X and U of x and u alone, T of all three.
        String[] one = {"0 0", "0 100", "0 1", "1 0", "1 100", "1 10", "1 1", "2 0", "2 100", "2 1"};
        String[] two = {"0 0", "0 100", "0 1", "0 200", "0 101", "0 2", "1 0", "1 100", "1 10", "1 1", "1 200", "1 110", "1 101",
            "1 20", "1 11", "1 2", "2 0", "2 100", "2 1", "2 200", "2 101", "2 2"};
        order("equation: flow 0;", 0, "0 0", "1 0", "2 0");
        order("equation: flow 0;", 1, one);
        order("equation: flow 0;", 2, two);
        order("equation: curve 0;", 0, "0 0", "2 0");
        order("equation: curve 0;", 1, "0 0", "0 100", "0 1", "2 0", "2 100", "2 1");
        // Of straight lines x^2 goes with x u along u, x u with u^2: rows go by where they begin.
        CHECKS.run("equation: curve 0; -> 0", "number 3 3 0 200 -> 1", "number 3 3 2 101 -> 1", "number 3 4 0 101 -> 1",
            "number 3 4 2 2 -> 1", "number 3 5 2 0 -> 1", "number 3 7 2 1 -> 1", "number 3 7 2 101 -> 0");
        // Rows that begin with more than 1.
        CHECKS.run("equation: flow 16*t+512*512*2*u+512*2*x+16*p; -> 4", "fields 1 -> 5", "number 1 1 0 100 -> 512",
            "number 1 1 0 10 -> 8192",
            "number 1 1 2 100 -> -1", "number 1 1 2 10 -> -16", "number 1 3 1 100 -> 32768", "number 1 3 1 10 -> 524288",
            "number 1 3 2 100 -> -1", "number 1 3 2 10 -> -16", "number 1 0 0 0 -> 1023", "number 1 0 0 100 -> 0",
            "number 1 0 2 1 -> -33554432");
        each(FLOW, "number", "1 -1 0 0: " + NSEE, "1 0 0 0: 1", "1 5 2 1: 1", "1 6 2 1: " + NSEE, "2 7 2 1: 1",
            "2 8 2 1: " + NSEE,
            "0 2 2 0: 1", "0 3 2 0: " + NSEE, "1 0 -1 0: " + IAE, "1 2 1 0: 1", "1 3 2 0: 1", "1 0 3 0: " + IAE);
        each(CURVE, "number", "1 -1 0 0: " + NSEE, "1 1 0 100: 1", "1 1 2 1: -2", "1 2 0 0: " + NSEE, "1 0 1 0: " + IAE,
            "1 0 3 0: " + IAE,
            "1 0 -1 0: " + IAE, "3 2 0 0: " + NSEE, "0 0 0 0: 1", "0 1 0 0: " + NSEE);
        each(FLOW, "steps", "1 -1 0: " + NSEE, "1 0 -1: " + NSEE, "1 6 0: " + NSEE, "1 0 6: " + NSEE, "1 5 5: 1", "1 0 4: 2",
            "0 3 0: " + NSEE, "0 0 3: " + NSEE, "0 2 2: 1", "2 8 0: " + NSEE, "2 0 8: " + NSEE, "2 7 7: 1");
        each(FLOW, "bracket", "1 -1 0: " + NSEE, "1 0 -1: " + NSEE, "1 6 0: " + NSEE, "1 0 6: " + NSEE, "1 5 5: 0", "1 0 4: 1",
            "0 3 0: " + NSEE, "0 0 3: " + NSEE, "0 2 2: 0", "2 8 0: " + NSEE, "2 0 8: " + NSEE, "2 7 7: 0");
        // No field at all leaves this one but 0: each row is one too many.
        String[] none = {"equation: flow x*t+u*q*x*t^2;", "tape: flow u;"};
        each(none, "fields", "0: 0");
        each(none, "number", "0 0 0 0: " + NSEE, "0 -1 0 0: " + NSEE);
        each(none, "steps", "0 0 0: " + NSEE);
        each(none, "bracket", "0 0 0: " + NSEE);
        each(none, "constant", "0 0 0 0 0: " + NSEE);
        each(none, "closed", "0: true");
        each(none, "within", "0: true");
        each(none, "kind", "0 0: 0", "0 1: 0", "0 2: 0", "0 3: 1");
    }

    /** The reduced form: rows begin above 0, each further on than the one ahead; where one begins, others have 0. */
    private static void formOfBases() {
        String[] equations = {"flow q;", "flow 0;", "flow 2*p+4*p^2;", "flow 6*q+10*u*p+15*u;", "flow 16*t+100*u+512*x+16*p;",
            "flow x*p+3*t*u;",
            "flow (2*x+3)*p+5*u;", "flow 3*p^2+2*u;", "flow u*q+7*t*p;", "curve 0;", "curve 5*p-6*u;", "curve x;",
            "curve 12*p+8*x+30;",
            "curve -3*u*p-u^3;", "curve 9*x^2;", "curve (x*p-u)^3;"};
        for (String equation : equations) {
            for (int d = 0; d <= (equation.startsWith("flow") ? 2 : 3); d++) {
                List<int[]> unknowns = unknowns(equation.startsWith("flow"), d);
                MotionSigns m = Checks.after("equation: " + equation);
                int n = m.fields(d);
                long[][] rows = new long[n][unknowns.size()];
                for (int i = 0; i < n; i++) {
                    for (int j = 0; j < unknowns.size(); j++) {
                        rows[i][j] = m.number(d, i, unknowns.get(j)[0], unknowns.get(j)[1]);
                    }
                    m = i % 10 == 9 ? Checks.after("equation: " + equation) : m;
                }
                CHECKS.due(equation + " degree " + d, "reduced", whetherReduced(rows));
            }
        }
    }

    private static List<int[]> unknowns(boolean flow, int d) {
        List<int[]> out = new ArrayList<>();
        for (int part = 0; part < 3; part++) {
            for (int g = 0; g <= d && (flow || part != 1); g++) {
                for (int x = g; x >= 0; x--) {
                    for (int t = flow ? g - x : 0; t >= 0; t--) {
                        out.add(new int[] {part, 100 * x + 10 * t + g - x - t});
                    }
                }
            }
        }
        return out;
    }

    private static String whetherReduced(long[][] rows) {
        int before = -1;
        for (int i = 0; i < rows.length; i++) {
            int lead = 0;
            long common = 0;
            while (lead < rows[i].length && rows[i][lead] == 0) {
                lead++;
            }
            if (lead == rows[i].length || lead <= before || rows[i][lead] < 0) {
                return "row " + i + " begins wrongly";
            }
            before = lead;
            for (int j = 0; j < rows[i].length; j++) {
                common = java.math.BigInteger.valueOf(common).gcd(java.math.BigInteger.valueOf(rows[i][j])).longValueExact();
            }
            for (int k = 0; k < rows.length; k++) {
                if (k != i && rows[k][lead] != 0) {
                    return "row " + k + " has a number where row " + i + " begins";
                }
            }
            if (common != 1) {
                return "row " + i + " can be divided by " + common;
            }
        }
        return "reduced";
    }

    private static void order(String equation, int d, String... names) {
        MotionSigns m = Checks.after(equation);
        CHECKS.due(equation + " fields " + d, names.length, m.fields(d));
        for (int i = 0; i < names.length; i++) {
            for (int k = 0; k < names.length; k++) {
                CHECKS.due(equation + " row " + i, i == k ? 1 : 0, Checks.ask(m, "number " + d + " " + i + " " + names[k]));
            }
        }
    }

    private static void constantsAndKinds() {
        each(FLOW, "constant", "1 0 1 0 0: 1", "1 0 1 0 1: 1", "1 5 5 5 0: 0", "1 5 5 5 1: 1", "1 0 1 0 -1: " + IAE,
            "1 0 1 0 2: " + IAE,
            "1 6 0 0 0: " + NSEE, "1 0 6 0 0: " + NSEE, "1 0 0 6 0: " + NSEE, "1 -1 0 0 0: " + NSEE, "1 0 -1 0 0: " + NSEE,
            "1 0 0 -1 0: " + NSEE, "1 6 0 0 9: " + NSEE, "0 2 2 2 0: 0", "0 3 0 0 0: " + NSEE);
        // Degree 2 is not closed: also where both brackets asked for are sums; a row that there is not goes ahead.
        each(FLOW, "constant", "2 0 0 0 0: " + IAE, "2 0 1 0 0: " + IAE, "2 7 7 7 1: " + IAE, "2 8 0 0 0: " + NSEE,
            "2 0 8 0 0: " + NSEE,
            "2 0 0 8 0: " + NSEE, "2 -1 0 0 9: " + NSEE, "3 9 9 9 9: " + IAE);
        each(FLOW, "kind", "1 -1: " + IAE, "1 0: 4", "1 1: 0", "1 2: 2", "1 3: 1", "1 4: " + IAE, "0 0: 0", "0 1: 3",
            "2 0: " + IAE, "2 3: " + IAE,
            "2 4: " + IAE, "3 0: " + IAE);
        each(CURVE, "kind", "3 -1: " + IAE, "3 0: 1", "3 1: 0", "3 2: 1", "3 3: 1", "3 4: " + IAE, "0 1: 1", "4 0: " + IAE);
        // Three turns: as many brackets as fields, and these are all there is of them.
        CHECKS.run("equation: flow q+u*p; -> 2", "kind 2 0 -> 5", "kind 2 1 -> 0", "kind 2 2 -> 3", "kind 2 3 -> 0");
    }

    /** DERIVED, CENTRE, FORM, SOLVABLE, one equation after the other on one object. */
    private static void kindsOneByOne() {
        String[] kinds = {
            "curve x*u;|0|0 0 0 0 1", "curve u;|0|1 0 1 0 1", "flow p^2;|2|10 10 0 10 0", "flow p;|1|10 8 0 5 0",
            "flow u;|0|2 0 2 0 1",
            "curve u^3;|1|2 1 0 1 1", "flow q;|0|3 0 3 0 1", "flow 3*r+3*x*u;|2|3 1 1 0 1", "curve p;|1|3 1 1 1 1",
            "curve x;|1|3 2 0 1 1",
            "curve (x*p-u)^3;|1|3 3 0 3 0", "flow 4*t+q+5*r;|1|4 1 2 0 1", "flow x^2*q+x*p;|1|4 1 2 1 1", "flow u*q;|1|4 2 0 2 1",
            "flow 2*q+t*u;|2|4 2 1 0 1", "flow x*u;|1|4 2 1 1 1", "curve x;|2|4 3 0 1 1", "flow 4*u^2+1;|1|4 3 1 1 1",
            "curve p;|2|4 3 1 3 0",
            "flow 4*x^2+4*q+5*r;|2|5 2 1 0 1", "flow 6*r+3*q;|1|5 2 1 1 1", "flow 2*r+6*x*q;|2|5 3 0 1 1", "curve x;|3|5 3 0 2 1",
            "flow u;|1|5 3 2 1 1", "flow q+x;|1|5 4 0 1 1", "flow u^3*r;|2|5 4 0 4 0", "flow q+u;|2|5 4 1 1 1",
            "flow q+u*p;|2|5 5 0 3 0",
            "flow 4*t+q+5*r;|2|6 3 0 1 1", "flow q;|1|6 4 0 2 1", "flow q+t*x;|2|6 5 0 1 1", "curve 0;|1|6 5 0 4 0",
            "flow q+p^2;|2|6 6 1 3 0",
            "flow r;|2|7 5 0 2 1", "flow p^2;|1|7 6 0 4 0", "curve 0;|2|8 8 0 8 0"};
        MotionSigns m = new MotionSigns();
        for (String kind : kinds) {
            String[] parts = kind.split("\\|");
            Checks.ask(m, "equation: " + parts[0]);
            StringBuilder got = new StringBuilder(Checks.ask(m, "fields " + parts[1]));
            for (int what = 0; what <= 3; what++) {
                got.append(' ').append(Checks.ask(m, "kind " + parts[1] + " " + what));
            }
            CHECKS.due(kind, parts[2], got);
        }
    }

    private static void weights() {
        each(FLOW, "stretch", "-1 0: " + NSEE, "0 -1: " + IAE, "0 0: 1", "0 1: 2", "0 2: 0", "0 3: " + IAE, "1 2: 1",
            "1 3: " + IAE,
            "2 0: " + NSEE, "2 3: " + NSEE, "-1 -1: " + NSEE);
        each(CURVE, "stretch", "0 0: 1", "0 1: 0", "0 2: -2", "0 3: " + IAE, "1 0: " + NSEE, "-1 0: " + NSEE);
        CHECKS.run("equation: flow 0; -> 0", "stretches -> 3", "stretch 2 2 -> 1", "stretch 2 1 -> 0", "stretch 3 0 -> " + NSEE,
            "equation: curve 0; -> 0", "stretches -> 2", "stretch 0 0 -> 1", "stretch 0 2 -> 0", "stretch 1 1 -> 0",
            "stretch 1 2 -> 1",
            "stretch 2 0 -> " + NSEE, "equation: curve 6*u^2+1+u; -> 3", "stretches -> 0", "stretch 0 0 -> " + NSEE,
            "keeps 0 -1 0 -> " + NSEE, "stretched 0 2 -> " + NSEE, "stretched 0 1 -> " + NSEE);
        each(FLOW, "keeps", "-1 -1 0: " + NSEE, "2 -1 0: " + NSEE, "2 0 3: " + NSEE, "0 -1 0: 2", "0 -1 1: 2", "0 -1 2: 2",
            "0 0 0: 2", "0 0 1: -1",
            "0 0 2: 0", "0 1 0: 0", "0 1 1: 0", "0 1 2: 1", "0 2 0: 0", "0 2 1: 0", "0 2 2: 0",
            "0 3 0: 0", "0 3 1: 0", "0 3 2: 0", "0 -2 1: 0", "0 2147483647 0: 0", "0 -2147483648 2: 0", "0 0 3: " + IAE,
            "0 0 -1: " + IAE, "0 9 3: " + IAE,
            "1 -1 0: 2", "1 0 0: 1", "1 1 1: 1", "1 1 2: 0",
            "1 2 0: 0", "1 2 1: 0", "1 2 2: 0");
        each(CURVE, "keeps", "0 -1 0: 1", "0 0 0: 2", "0 0 1: 0", "0 0 2: 1", "0 1 0: 0", "0 1 1: 0", "0 1 2: 0", "0 2 0: 0",
            "0 2 1: 0",
            "0 2 2: 0", "1 -1 0: " + NSEE, "0 0 3: " + IAE);
        // A curve keeps a power of x or u alone, if the other's weight is 0.
        CHECKS.run("equation: curve p; -> 1", "stretches -> 1", "stretch 0 0 -> 0", "stretch 0 2 -> 1", "keeps 0 -1 0 -> 1",
            "keeps 0 0 0 -> 1",
            "keeps 0 0 2 -> 0", "equation: curve 2; -> 1", "stretch 0 2 -> 2", "keeps 0 0 0 -> 2", "keeps 0 0 2 -> -1");
    }

    private static void densities() {
        each(FLOW, "sums", "-1: " + IAE, "0: " + IAE, "1: 1", "2: 1", "3: 1", "4: 1", "5: " + IAE);
        each(CURVE, "sums", "0: " + IAE, "1: " + IAE, "4: " + IAE, "5: " + IAE);
        each(FLOW, "sum", "1 0 1 0: 1", "4 0 1 0: 1", "0 0 1 0: " + IAE, "5 0 1 0: " + IAE, "1 1 1 0: " + NSEE,
            "1 -1 1 0: " + NSEE,
            "4 1 1 0: " + NSEE, "1 0 0 0: 0", "1 0 0 1: 0", "1 0 2 0: 0", "1 0 -1 0: 0", "1 0 0 -1: 0", "1 0 1 -1: 0",
            "1 0 1 1: 0");
        each(CURVE, "sum", "1 0 1 0: " + IAE, "5 0 1 0: " + IAE, "1 -1 0 0: " + IAE);
        // All densities are kept where nothing moves: their order, and which there are.
        String[][] names = {{}, {"1 0"}, {"1 0", "2 0", "0 2"}, {"1 0", "2 0", "0 2", "3 0", "1 2", "0 3"},
            {"1 0", "2 0", "0 2", "3 0", "1 2", "0 3", "4 0", "2 2", "1 3", "0 4"}};
        MotionSigns m = Checks.after("equation: flow 0;");
        for (int d = 1; d <= 4; d++) {
            CHECKS.due("sums " + d, names[d].length, m.sums(d));
            for (int i = 0; i < names[d].length; i++) {
                for (int a = -1; a <= 5; a++) {
                    for (int b = -1; b <= 5; b++) {
                        CHECKS.due("sum " + d + " " + i, names[d][i].equals(a + " " + b) ? 1L : 0L, Checks.ask(m, "sum " + d + " " + i + " " + a + " " + b));
                        m = m.fields(0) > 0 && a == 5 && b == 5 ? Checks.after("equation: flow 0;") : m;
                    }
                }
            }
        }
        String[] kept = {"flow r;|1 3 3 3", "flow r+r^2;|0 0 0 0", "flow q*r;|1 2 2 2", "flow p*r+q^2;|1 2 3 3",
            "flow q+2*x*r;|1 2 2 2",
            "flow p^2;|0 1 2 3", "flow r+q;|1 1 1 1", "flow u;|0 0 0 0", "flow u*p;|1 2 3 4", "flow r+6*u*p;|1 2 3 3",
            "flow x*p;|0 0 0 0",
            "flow p;|1 3 6 10", "flow x*q+p;|1 1 1 1", "flow t*q;|1 1 1 1"};
        MotionSigns again = new MotionSigns();
        for (String row : kept) {
            Checks.ask(again, "equation: " + row.split("\\|")[0]);
            CHECKS.due(row, row.split("\\|")[1], again.sums(1) + " " + again.sums(2) + " " + again.sums(3) + " " + again.sums(4));
        }
        CHECKS.run("equation: flow 0; -> 0", "sum 4 9 0 4 -> 1", "sum 4 10 0 4 -> " + NSEE, "sum 1 1 0 2 -> " + NSEE);
    }

    private static void solutions() {
        each(FLOW, "left", "0 0: 0", "1 0: -1", "40 0: 0", "0 40: 0", "40 40: 0", "41 0: " + IAE, "0 41: " + IAE,
            "-1 0: " + IAE, "0 -1: " + IAE);
        each(CURVE, "left", "0 0: 2", "4 0: -6", "40 0: 0", "41 0: " + IAE, "-1 0: " + IAE, "0 1: " + IAE, "0 -1: " + IAE,
            "0 40: " + IAE);
        CHECKS.run("equation: flow -x^4*u^4*p^4*q^4; -> 1", "solution: u=x^4; -> 1", "solves -> 1", "left 40 0 -> 5308416",
            "left 39 0 -> 0",
            "equation: flow -x^4*u^4*p^4*q^4*r; -> 1", "solution: u=x^4; -> 1", "solves -> 1", "left 41 0 -> " + IAE,
            "left 40 0 -> 0",
            "equation: flow -t^4*u^4*p^4*q^4*r^4; -> 1", "solution: u=x^3*t^3+t; -> 2", "left 0 40 -> 0", "left 28 40 -> 0",
            "equation: flow -t^4*u^4*p^4; -> 1", "solution: u=t^4*x; -> 1", "left 4 36 -> 1", "left 1 3 -> 4", "solves -> 2",
            "equation: flow -u^4*p^4*q^2; -> 1", "solution: u=t^4*x^2; -> 1", "left 12 40 -> 64", "left 2 3 -> 4");
        each(FLOW, "shifted", "0 0: 1", "9 0: 2", "-9 0: 2", "9 9: 2", "-9 -9: 2", "10 0: " + IAE, "-10 0: " + IAE, "0 9: 1",
            "0 -9: 1",
            "0 10: " + IAE, "0 -10: " + IAE);
        each(CURVE, "shifted", "0 0: 2", "9 0: 5", "-9 0: 5", "10 0: " + IAE, "-10 0: " + IAE, "0 1: " + IAE, "0 -1: " + IAE,
            "9 9: " + IAE);
        // x less a: a stands where 0 stood.
        CHECKS.run("equation: flow x-9; -> 2", "solution: u=t*x; -> 1", "solves -> 1", "shifted 9 0 -> 0", "shifted -9 0 -> 1",
            "equation: flow 3*t^2-54*t+243; -> 3", "solution: u=t^3; -> 1", "shifted 0 9 -> 0", "shifted 0 -9 -> 1",
            "solves -> 2");
        // All numbers of (x - 1)^4, (x - 9)^3, (x + 2)^2, and of those of t; they go with the solution's own.
        CHECKS.run("equation: flow u-x^4+4*x^3-6*x^2+4*x-1; -> 6", "solution: u=x^4; -> 1", "shifted 1 0 -> 0",
            "shifted -1 0 -> 2",
            "equation: flow u-x^3+27*x^2-243*x+729; -> 5", "solution: u=x^3; -> 1", "shifted 9 0 -> 0",
            "equation: flow u-7*x^2-28*x-28; -> 4", "solution: u=7*x^2; -> 1", "shifted -2 0 -> 0", "shifted 2 0 -> 1",
            "equation: flow u-t^4+8*t^3-18*t^2+16*t-5; -> 6", "solution: u=t^4; -> 1", "shifted 0 1 -> 0", "shifted 1 0 -> 4",
            "equation: flow u-t^3+9*t^2-24*t+20; -> 5", "solution: u=t^3; -> 1", "shifted 0 2 -> 0",
            "equation: flow 2*x*t-2*x-4*t+4; -> 4", "solution: u=x*t^2; -> 1", "shifted 2 1 -> 0", "shifted 1 2 -> 2",
            "equation: flow 4*(x-2)*(t-3)^3; -> 8", "solution: u=x*t^4; -> 1", "shifted 2 3 -> 0", "shifted 2 -3 -> 4");
        each(FLOW, "stretched", "1 1: " + IAE, "1 2: 1", "1 9: 1", "1 10: " + IAE, "1 0: " + IAE, "1 -2: " + IAE, "0 2: -1",
            "0 9: -1", "0 1: " + IAE,
            "0 10: " + IAE, "2 2: " + NSEE, "2 1: " + NSEE, "-1 2: " + NSEE, "-1 10: " + NSEE);
        each(CURVE, "stretched", "0 2: -1", "0 9: -1", "0 1: " + IAE, "0 10: " + IAE, "1 2: " + NSEE, "1 1: " + NSEE);
        // The power of s is 0 of x^2, below 0 of x^3, above 0 of x; also of one term alone.
        CHECKS.run("equation: curve 2; -> 1", "solution: u=x^2; -> 1", "stretched 0 9 -> 0", "solution: u=x^3; -> 1",
            "stretched 0 9 -> -1",
            "solution: u=x^3+x^2+x+1; -> 4", "stretched 0 2 -> -1", "solution: u=2*x^2+x; -> 2", "stretched 0 2 -> 1",
            "solution: u=0; -> 0",
            "stretched 0 2 -> 1", "equation: flow q; -> 1", "stretched 0 2 -> 0", "stretched 1 2 -> 0");
        // 3 to a power of 1: 7 x by 3 is 21 x, so u less this one's own.
        CHECKS.run("equation: flow u-21*x; -> 2", "stretches -> 1", "stretch 0 0 -> 1", "stretch 0 2 -> 1",
            "solution: u=21*x; -> 1", "solves -> 0",
            "stretched 0 3 -> 0", "equation: curve 24; -> 1", "stretch 0 2 -> 2", "solution: u=6*x^2+6*x^2+x; -> 2",
            "solves -> 0",
            "stretched 0 7 -> 0", "solution: u=11*x^2; -> 1", "stretched 0 7 -> 1");
    }

    private static void wavesAndLines() {
        each(FLOW, "wave", "0 10: -1", "0 100: 0", "99 100: -99", "-99 100: 99", "100 100: " + IAE, "-100 100: " + IAE,
            "100 0: " + IAE, "98 100: -98");
        each(CURVE, "wave", "0 0: " + IAE, "99 100: " + IAE, "100 0: " + IAE);
        for (String place : List.of("x", "t", "x*t", "q*x^4", "u*t+1", "q+x-t")) {
            CHECKS.each(new String[] {"equation: flow " + place + ";"}, "wave 0 0 -> " + IAE, "wave 3 100 -> " + IAE);
        }
        CHECKS.run("equation: flow x-x+p; -> 1", "wave 0 100 -> -1", "wave -1 100 -> 0", "wave 99 100 -> -100",
            "wave -99 100 -> 98",
            "equation: flow 100^3*p; -> 1", "wave 99 100 -> -1000099", "equation: flow -100^3*p; -> 1", "wave -99 100 -> 1000099",
            "equation: flow p^2; -> 1", "wave 9 200 -> -1", "wave 9 100 -> -9", "wave 9 0 -> 0");
        each(CURVE, "lines", "-1: " + IAE, "0: 0", "1: 0", "2: 1", "3: " + IAE);
        each(FLOW, "lines", "-1: " + IAE, "0: " + IAE, "1: " + IAE, "2: " + IAE, "3: " + IAE);
        CHECKS.run("equation: curve p^3; -> 1", "lines 0 -> 1", "lines 1 -> 0", "lines 2 -> 0", "equation: curve p^4; -> 1",
            "lines 0 -> 0", "lines 1 -> -1",
            "lines 2 -> -1", "equation: curve p^4-p^4; -> 0", "lines 0 -> 1", "lines 1 -> 0",
            "equation: curve p^4*x*u+p^3+p; -> 3", "lines 0 -> 0",
            "lines 1 -> -1", "lines 2 -> -1", "lines 3 -> " + IAE);
        // Of each test alone there is something left: of F3 by x twice, of F0 by u twice.
        CHECKS.run("equation: curve x^2*p^3; -> 1", "lines 0 -> 0", "lines 1 -> 1", "lines 2 -> 0", "equation: curve u^2; -> 1",
            "lines 0 -> 0", "lines 1 -> 0",
            "lines 2 -> 1");
    }

    private static void imagesKept() {
        // With three a fourth does nothing: what it would have kept is not kept, what the third keeps is.
        CHECKS.run("equation: flow q; -> 1", "image -> 1", "field: x=1; -> 1", "image -> 2", "field: x=1;t=1; -> 2", "image -> 3",
            "field: x=1;t=1;u=1; -> 3", "image -> -1", "count 0 -> 3", "rest 1 -> 3", "restore -> 2", "rest 1 -> 2",
            "count 0 -> 2",
            "image -> 3", "image -> -1", "restore -> 2", "restore -> 1", "rest 1 -> 1", "restore -> 0", "rest 1 -> 0",
            "restore -> -1",
            "rest 1 -> 0", "count 0 -> 0", "image -> 1", "restore -> 0");
        CHECKS.run("restore -> -1", "image -> 1", "image -> 2", "image -> 3", "image -> -1", "count 0 -> 3",
            "equation: flow q -> -9 @6",
            "count 0 -> 3", "equation: flow q; -> 1", "count 0 -> 0", "restore -> -1");
        String[] full = {"equation: flow q;", "image", "field: x=x;", "solution: u=x^3;", "image", "field: u=x;", "image",
            "solution: u=t;",
            "field: x=(", "tape: flow u;"};
        CHECKS.each(full, "image -> -1", "restore -> 2");
        String[] none = {"equation: flow q;", "field: x=x;", "solution: u=x^3;", "field: x=(", "tape: flow u;"};
        CHECKS.each(none, "restore -> -1", "image -> 1");
        // All as it was: the field and the solution, and not the one alone.
        CHECKS.run("equation: flow q; -> 1", "field: x=x; -> 1", "solution: u=x^3; -> 1", "rest 0 -> 1", "left 1 0 -> -6",
            "image -> 1", "field: t=1;u=1; -> 2",
            "rest 0 -> 0", "solution: u=t; -> 1", "left 0 0 -> 1", "restore -> 0", "rest 1 -> 1", "rest 0 -> 1",
            "leaves -> false", "left 1 0 -> -6",
            "left 0 0 -> 0", "solves -> 1", "shifted 1 0 -> 2", "fields 1 -> 6");
    }

    private static void counts() {
        each(FLOW, "count", "-1: -1", "0: 2", "1: 20", "2: -1", "2147483647: -1", "-2147483648: -1");
        each(NEW, "count", "-1: -1", "0: 0", "1: 20", "2: -1");
        CHECKS.run("feed 0 0 0 0 0 -> 20", "feed 0 0 0 0 0 -> 40", "count 1 -> 40", "equation 41 -> " + IAE, "count 1 -> 40",
            "equation 1 -> -9 @0",
            "count 1 -> 0", "image -> 1", "count 0 -> 1");
    }

    /** Of several refusals: no such degree, then no such row, then all else. */
    private static void aheadOfAll() {
        CHECKS.each(FLOW, "number 3 -1 9 9 -> " + IAE, "number 2 -1 9 9 -> " + NSEE, "number 2 8 3 444 -> " + NSEE,
            "number 2 7 3 444 -> " + IAE,
            "constant 3 -1 9 9 9 -> " + IAE, "constant 1 0 0 9 9 -> " + NSEE, "constant 2 0 0 9 9 -> " + NSEE,
            "constant 2 0 0 0 9 -> " + IAE,
            "steps -1 9 9 -> " + IAE, "steps 0 9 9 -> " + NSEE, "bracket -1 9 9 -> " + IAE, "bracket 0 9 9 -> " + NSEE,
            "stretch 2 9 -> " + NSEE, "stretch 1 9 -> " + IAE, "keeps 2 0 9 -> " + NSEE, "keeps 1 0 9 -> " + IAE,
            "stretched 2 99 -> " + NSEE,
            "stretched 1 99 -> " + IAE, "sum 4 1 -9 -9 -> " + NSEE, "sum 9 0 0 0 -> " + IAE);
        CHECKS.each(CURVE, "number 4 -1 9 9 -> " + IAE, "number 3 2 1 9 -> " + NSEE, "number 3 1 1 0 -> " + IAE,
            "stretched 1 0 -> " + NSEE,
            "sum 1 9 0 0 -> " + IAE);
    }

    /** Numbers far off in every place: what is not refused is as it was, what is refused throws what the document names. */
    private static void farOff() {
        for (String[] told : List.of(NEW, FLOW, CURVE)) {
            MotionSigns twin = Checks.after(told);
            List<String> due = Checks.all(twin, "EFSIT");
            for (String call : CALLS) {
                int numbers = call.charAt(call.length() - 1) - '0';
                for (int place = 0; place < numbers; place++) {
                    MotionSigns m = Checks.after(told);
                    for (int far : FAR) {
                        StringBuilder s = new StringBuilder(call.substring(0, call.length() - 2));
                        for (int i = 0; i < numbers; i++) {
                            s.append(' ').append(i == place ? far : 0);
                        }
                        String got = Checks.ask(m, s.toString());
                        boolean good = got.startsWith("throws.") || List.of("keeps", "sum",
                            "count").contains(s.substring(0, s.indexOf(" ")));
                        CHECKS.due(s.toString(), true, good && !got.startsWith("machine."));
                    }
                    CHECKS.due(call + ", place " + place + ", and then", due, Checks.all(m, "EFSIT"));
                }
            }
        }
    }
}
