/** Terms 1 to 4: where whole numbers have 64 bits that wrap, where all is exact, least terms, and one step to eight. */
public final class WrapTest {
    private static final Checks CHECKS = new Checks("WrapTest");
    private static final String IAE = Checks.ARGUMENT;
    private static final String LEAST = "-9223372036854775808";

    public static void main(String[] args) {
        restsOfFields();
        restsOfSolutions();
        moved();
        brackets();
        leastBothWays();
        steps();
        exactBases();
        leastTerms();
        exactTests();
        CHECKS.end();
    }

    private static void restsOfFields() {
        // One of fifteen numbers is a multiple of 2 to 64 with 2^18 and 2^19, and none with half of it.
        CHECKS.run("equation: flow 512*512*r^4; -> 1", "field: t=512*512*x^4*u^4; -> 1", "rest 0 -> 15",
            "field: t=512*512*2*x^4*u^4; -> 1", "rest 0 -> 14", "leaves -> false", "within 2 -> false", "rest 1 -> 1",
            "equation: flow 512*256*r^4; -> 1", "field: t=512*512*2*x^4*u^4; -> 1", "rest 0 -> 15");
        CHECKS.run("equation: flow 512*512*2*t^4*p^4*q^3*r^4; -> 1", "field: t=512*256*x^2*t^4; -> 1", "rest 0 -> 11",
            "field: t=512*512*x^2*t^4; -> 1", "rest 0 -> 10");
    }

    private static void restsOfSolutions() {
        // 2 to 60, 7, 8 and 16 times: below 2 to 63, on it, and once around.
        CHECKS.run("equation: flow u^4; -> 1", "solution: u=256*128; -> 1", "left 0 0 -> -1152921504606846976", "solves -> 1",
            "solution: u=256*256; -> 1", "left 0 0 -> 0", "solves -> 0", "solution: u=256*255; -> 1", "solves -> 1",
            "equation: flow -7*u^4; -> 1", "solution: u=256*128; -> 1", "left 0 0 -> 8070450532247928832", "solves -> 1",
            "equation: flow 8*u^4; -> 1", "solution: u=256*128; -> 1", "left 0 0 -> " + LEAST, "solves -> 1",
            "equation: flow -8*u^4; -> 1", "solution: u=256*128; -> 1", "left 0 0 -> " + LEAST, "solves -> 1",
            "equation: flow -9*u^4; -> 1", "solution: u=256*128; -> 1", "left 0 0 -> -8070450532247928832",
            "equation: flow -15*u^4; -> 1", "solution: u=256*128; -> 1", "left 0 0 -> -1152921504606846976",
            "equation: flow 16*u^4; -> 1", "solution: u=256*128; -> 1", "left 0 0 -> 0", "solves -> 0",
            "equation: flow 17*u^4; -> 1", "solution: u=256*128; -> 1", "left 0 0 -> -1152921504606846976");
        // Terms are those whose number is not 0 then: also the only one of a power.
        CHECKS.run("equation: curve u^4; -> 1", "solution: u=256*256+x; -> 2", "solves -> 4", "left 0 0 -> 0",
            "left 1 0 -> -1125899906842624", "left 4 0 -> -1", "solution: u=256*256*x^4; -> 1", "solves -> 1", "left 16 0 -> 0",
            "left 2 0 -> 786432");
        CHECKS.run("equation: flow 999*999*u^4*p^4; -> 1", "solution: u=999*999*x; -> 1", "left 4 0 -> " + (-pow(998001, 9)));
    }

    private static long pow(long n, int times) {
        long r = 1;
        for (int i = 0; i < times; i++) {
            r *= n;
        }
        return r;
    }

    private static void moved() {
        // (x - a)^4 by 2 to 60: with a of 1 all five stay, with 2 the last two are gone, with 4 and 8 but the first.
        CHECKS.run("equation: flow u^4; -> 1", "solution: u=256*128*x; -> 1", "solves -> 1", "shifted 1 0 -> 5",
            "shifted 2 0 -> 3",
            "shifted 4 0 -> 1", "shifted -8 0 -> 1", "shifted 9 0 -> 5", "solution: u=256*256*x; -> 1", "shifted 9 0 -> 0",
            "solves -> 0");
        // 8 to 16 is 2 to 48: with 2^13 up to 2^16 ahead the slope along t (4 times) goes first, then all.
        CHECKS.run("equation: flow x^4*u; -> 1", "stretch 0 1 -> -4", "stretch 0 2 -> 0", "solution: u=512*16*t^4; -> 1",
            "stretched 0 8 -> 2",
            "solution: u=512*32*t^4; -> 1", "stretched 0 8 -> 1", "solution: u=512*64*t^4; -> 1", "stretched 0 8 -> 1",
            "solution: u=512*128*t^4; -> 1", "stretched 0 8 -> 0", "solves -> 2", "stretched 0 7 -> 2", "stretched 0 4 -> 2");
        // Powers of s far beyond 64 bits: 42 by t, 126 by t to 4 (weights 5, -28, 14).
        CHECKS.run("equation: flow x^2*p^4*r^4+2*u^3; -> 2", "stretch 0 0 -> 5", "stretch 0 1 -> -28", "stretch 0 2 -> 14",
            "solution: u=t; -> 1",
            "stretched 0 2 -> 1", "stretched 0 3 -> 2", "solution: u=t^4; -> 1", "stretched 0 2 -> 0", "stretched 0 9 -> 2",
            "solution: u=x^2; -> 1", "stretched 0 2 -> 1", "solution: u=x^3; -> 1", "stretched 0 2 -> -1",
            "solution: u=x^3*t; -> 1",
            "stretched 0 2 -> 1");
    }

    private static void brackets() {
        CHECKS.run("equation: flow 256*128*p; -> 1", "bracket 2 13 19 -> 4", "bracket 2 19 13 -> 4",
            "equation: flow 256*256*p; -> 1",
            "bracket 2 13 19 -> 3", "bracket 2 19 13 -> 3", "bracket 2 13 13 -> 0");
        // Two of 2 to 32 and more each, and the base's own numbers cut to 64 bits: 2 to 72 and above are 0 of it.
        CHECKS.run("equation: flow 512*256*t+2*t*p+512*512*2*u*p; -> 3", "bracket 2 0 4 -> 0", "bracket 2 0 5 -> 0",
            "number 2 4 1 1 -> 0",
            "number 2 4 2 11 -> 0", "closed 2 -> false");
        // A bracket that wraps to the least long is its own opposite: 128 with 64, with 128 and with 256 of these.
        CHECKS.run("equation: flow 128*p*p-64*128*p; -> 2", "closed 2 -> true", "equation: flow 128*p*p-128*128*p; -> 2",
            "closed 2 -> false",
            "kind 2 0 -> " + IAE, "constant 2 0 0 0 0 -> " + IAE, "equation: flow 128*p*p-256*128*p; -> 2", "closed 2 -> false");
        CHECKS.run("equation: flow 512*512*2*u+512*512*2*x+512*8*p^2+512*256*t^2; -> 4", "bracket 2 1 2 -> 0", "closed 2 -> true",
            "constant 2 1 2 0 0 -> 0", "constant 2 1 2 0 1 -> 1", "steps 2 1 2 -> 1");
    }

    /** Closed, though a bracket is the least long both ways round: the sum stands ahead in what CENTRE asks for. */
    private static void leastBothWays() {
        CHECKS.run("equation: flow -8*p*q+t-512*p-512*512*u; -> 4", "fields 1 -> 3", "closed 1 -> true",
            "constant 1 0 1 0 0 -> 68719476736", "constant 1 1 0 0 0 -> -68719476736", "constant 1 1 2 0 0 -> " + LEAST,
            "constant 1 2 1 0 0 -> " + LEAST, "constant 1 2 1 0 1 -> 1", "constant 1 0 2 0 0 -> 0", "bracket 1 1 2 -> 1",
            "kind 1 0 -> 1", "kind 1 1 -> 1", "kind 1 2 -> 1", "kind 1 3 -> 1");
    }

    private static void steps() {
        // x + k t along t takes the shift of t k times each time, and of x from the second time on.
        CHECKS.run("equation: flow 256*p; -> 1", "steps 1 5 4 -> 8", "steps 1 5 0 -> -1", "equation: flow 128*p; -> 1",
            "steps 1 5 4 -> -1",
            "steps 1 5 0 -> -1", "equation: flow 64*64*p; -> 1", "steps 1 5 4 -> 6", "steps 1 5 0 -> 7",
            "equation: flow 512*p; -> 1",
            "steps 1 5 4 -> 8", "steps 1 5 0 -> -1", "equation: flow 512*2*p; -> 1", "steps 1 5 4 -> 7", "steps 1 5 0 -> 8",
            "equation: flow 512*64*p; -> 1", "steps 1 5 4 -> 5", "steps 1 5 0 -> 6", "equation: flow 512*512*2*p; -> 1",
            "steps 1 5 4 -> 4",
            "steps 1 5 0 -> 5");
        // Without any wrapping: one to five, or never.
        CHECKS.run("equation: flow x; -> 1", "steps 2 0 0 -> 1", "steps 2 0 1 -> 2", "steps 2 0 3 -> 3", "steps 2 0 8 -> 4",
            "steps 2 2 8 -> 5",
            "steps 2 1 0 -> -1", "equation: flow u*p; -> 1", "steps 2 4 13 -> 5", "closed 2 -> false");
    }

    private static void exactBases() {
        // The square of x less c t and 8192 u along t leaves it: c is 2 to 31, 2 to 32, 3 times 2 to 31.
        CHECKS.run("equation: flow 32*x+512*512+512*512*x*p; -> 3", "number 2 5 1 10 -> -2147483648",
            "number 2 6 1 20 -> 4611686018427387904",
            "number 2 6 1 110 -> -4294967296", "equation: flow 32*x+512*512*2+512*512*x*p; -> 3",
            "number 2 5 1 10 -> -4294967296",
            "number 2 6 1 200 -> 1", "number 2 6 1 20 -> 0", "number 2 6 1 11 -> -70368744177664", "number 2 9 2 20 -> 0",
            "equation: flow 32*x+512*512*3+512*512*x*p; -> 3", "number 2 5 1 10 -> -6442450944",
            "number 2 6 1 20 -> 4611686018427387904");
        CHECKS.run("equation: flow 16*t+512*512*2*u+512*2*x+16*p; -> 4",
            "number 2 8 2 11 -> " + LEAST, "number 2 8 2 101 -> -576460752303423488",
            "number 2 8 2 0 -> 1046529");
        // Of 100 bits, as the model works them out with whole numbers without bound.
        String text = "equation: flow 999*998*p+997*996*u+995*994*x+991*983*t;";
        MotionSigns mine = Checks.after(text);
        Model model = new Model();
        Checks.ask(model, text);
        for (int i = 0; i < 10; i++) {
            for (int part = 0; part < 3; part++) {
                for (int powers : new int[] {0, 100, 10, 1, 200, 110, 101, 20, 11, 2}) {
                    CHECKS.due("row " + i, model.number(2, i, part, powers), mine.number(2, i, part, powers));
                }
            }
        }
    }

    private static void leastTerms() {
        // Rows: nothing divides all of one, the first number is above 0, and it stands alone in its place.
        CHECKS.run("equation: flow 6*p+4*q; -> 2", "stretches -> 1", "stretch 0 2 -> 1", "number 1 0 0 0 -> 1",
            "equation: flow x^2*u^4; -> 1",
            "stretches -> 2", "stretch 0 0 -> 3", "stretch 0 1 -> 0", "stretch 0 2 -> -2", "stretch 1 1 -> 3",
            "stretch 1 2 -> -1",
            "keeps 1 0 0 -> 1", "keeps 1 1 1 -> 1", "keeps 1 1 2 -> 3", "equation: curve x*u^3; -> 1", "stretch 0 0 -> 2",
            "stretch 0 2 -> -3",
            "keeps 0 0 0 -> 3", "keeps 0 0 2 -> 2");
        CHECKS.run("equation: flow r+6*u*p; -> 2", "sum 3 2 3 0 -> -2", "sum 3 2 0 2 -> 1", "sum 3 1 2 0 -> 1",
            "equation: flow r+9*u*p; -> 2",
            "sum 3 2 0 2 -> 1", "sum 3 2 3 0 -> -3", "equation: flow r+u*p; -> 2", "sum 3 2 0 2 -> 3", "sum 3 2 3 0 -> -1",
            "equation: flow 4*r+6*u*p; -> 2", "sum 3 2 0 2 -> 2", "sum 3 2 3 0 -> -1");
        CHECKS.run("equation: flow 2*p+4*p^2; -> 2", "constant 2 0 4 1 0 -> 1", "constant 2 0 4 1 1 -> 2",
            "constant 2 4 0 1 0 -> -1",
            "constant 2 4 0 1 1 -> 2", "constant 2 0 4 0 0 -> 0", "constant 2 0 4 0 1 -> 1");
    }

    private static void exactTests() {
        // Great numbers in a field's determining equations, in a table, in densities. (A TEST never comes to 64 bits: F has
        // twelve numbers of a million at most.)
        String[] texts = {"flow 999*999*r^4*u^4*x^4+999*998*q^4*t^4+997*p^4*u^4;", "flow 999*999*u^4*p+998*998*u^3*p+r*999*997;",
            "flow (999*x+998)*q+997*p;", "flow 991*983*q+977*971*u*p;"};
        for (String text : texts) {
            MotionSigns mine = Checks.after("equation: " + text);
            Model model = new Model();
            Checks.ask(model, "equation: " + text);
            for (String call : new String[] {"fields 0", "fields 1", "fields 2", "number 1 0 0 0", "number 2 1 1 10",
                "closed 1", "closed 2", "kind 1 0",
                "kind 1 1", "kind 1 2", "kind 1 3", "kind 2 2", "sums 1", "sums 2", "sums 3", "sums 4", "sum 4 0 0 2",
                "sum 4 0 3 0", "sum 4 1 4 0",
                "stretches", "stretch 0 0", "stretch 0 1", "stretch 0 2"}) {
                CHECKS.due(text + " " + call, Checks.ask(model, call), Checks.ask(mine, call));
            }
        }
    }
}
