import java.util.ArrayList;
import java.util.List;

/** Terms 1 and promises 2 to 6: for each bound of a text what stands on it, below it and above it. */
public final class TextBoundsTest {
    private static final Checks CHECKS = new Checks("TextBoundsTest");
    private static final String SIXTY = "(1+x+x^2+x^3+x^4)*(1+t+t^2+t^3)*(1+u+u^2)";
    private static final String[] FLOW = {"equation: flow q;"};
    private static final String[] CURVE = {"equation: curve u;"};
    private static final String[] WHOLE = {
        "equation: flow q;", "image", "field: u=u;", "solution: u=x;", "image", "field: x=x^2;t=t;u=u;",
        "solution: u=x^3+5*t*x;", "field: x=(", "tape: flow 7*r^2+u;"};

    public static void main(String[] args) {
        feeding();
        lengths();
        wholeNumbers();
        powers();
        letters();
        termsAtLast();
        numbersAtLast();
        powersAtLast();
        termsOnTheWay();
        powersOnTheWay();
        numbersOnTheWay();
        brackets();
        signs();
        words();
        blanks();
        fields();
        solutions();
        firstFromTheLeft();
        whatStays();
        CHECKS.end();
    }

    private static String many(String s, int n) {
        return s.repeat(Math.max(0, n));
    }

    private static void feeding() {
        CHECKS.run("count 1 -> 0", "feed 0 0 0 0 0 -> 20", "count 1 -> 20", "equation 0 -> -9 @0", "count 1 -> 0");
        List<String> rows = new ArrayList<>();
        for (int n = 20; n <= 200; n += 20) {
            rows.add("feed 1718382455 544291616 538976288 538976288 538976288 -> " + n);
        }
        rows.add("feed 1718382455 544291616 538976288 538976288 538976288 -> -1");
        rows.add("feed 0 0 0 0 0 -> -1");
        rows.add("count 1 -> 200");
        rows.add("equation 7 -> 1");
        rows.add("feed 0 0 0 0 0 -> 20");
        CHECKS.run(rows.toArray(new String[0]));
        // Full: nothing is done, and what stands on the tape stays.
        String[] full = {"tape: flow q*u+7*r^2" + many(" ", 179) + ";"};
        CHECKS.each(full, "feed 2038004089 2038004089 2038004089 2038004089 2038004089 -> -1", "equation 200 -> 2");
        CHECKS.each(new String[] {"tape: flow q" + many(" ", 160)}, "feed 993737531 538976288 538976288 538976288 538976288 -> 200");
        // Bytes above 127, the highest first: of each of the five numbers.
        CHECKS.run("feed 1718382455 544291616 -1 -1 -1 -> 20", "equation 20 -> -9 @8");
        CHECKS.run("feed 1718382455 544287605 711994226 1580346679 712522751 -> 20", "equation 20 -> -9 @19");
        CHECKS.run("feed 1718382455 544287605 711994226 1580346679 712522528 -> 20", "equation 20 -> 4", "term 10 -> 1",
            "term 1100 -> 1", "term 2 -> 1", "term 100000 -> -7");
    }

    private static void lengths() {
        String long200 = "flow " + many("q+", 97) + "7";
        CHECKS.run("equation: " + long200.substring(0, 199) + "; -> -9 @199");
        CHECKS.run("equation: flow " + many("q+", 96) + "77; -> 2", "term 10 -> 96", "term 0 -> 77");
        CHECKS.run("equation: flow " + many(" ", 193) + "q; -> 1");
        CHECKS.run("equation: flow q;" + many(" ", 193) + " -> 1");
        CHECKS.run("equation: flow " + many("0", 191) + "999; -> 1", "term 0 -> 999");
        CHECKS.run("equation: flow " + many("0", 190) + "1000; -> -8 @5");
        // Ends too early: at the length, not at the tape's end or at the last byte that was no blank.
        CHECKS.run("tape: flow q; -> 20", "equation 6 -> -9 @6");
        CHECKS.run("tape: flow q; -> 20", "equation 4 -> -9 @4");
        CHECKS.run("tape: flow q; -> 20", "equation 3 -> -9 @0");
        CHECKS.run("tape: flow q; -> 20", "equation 7 -> 1");
        CHECKS.run("tape: flow q; -> 20", "equation 20 -> 1");
        CHECKS.run("equation: flow q^   -> -9 @9");
        CHECKS.run("equation: flow    -> -9 @7");
        CHECKS.run("equation:  -> -9 @0");
        CHECKS.run("equation:     -> -9 @3");
    }

    private static void wholeNumbers() {
        CHECKS.run("equation: flow 0; -> 0", "equation: flow 1; -> 1", "equation: flow 998; -> 1", "term 0 -> 998",
            "equation: flow 999; -> 1", "term 0 -> 999", "equation: flow 1000; -> -8 @5", "equation: flow 1001; -> -8 @5",
            "equation: flow 0999; -> 1", "equation: flow 01000; -> -8 @5", "equation: flow 4294967297; -> -8 @5",
            "equation: flow 18446744073709551617; -> -8 @5", "equation: flow q*(u+1000)*u; -> -8 @10",
            "equation: flow -1000; -> -8 @6", "equation: flow -999; -> 1", "term 0 -> -999");
        CHECKS.run("equation: curve 999; -> 1", "equation: curve 1000; -> -8 @6", "field: u=999; -> 1",
            "field: u=1;x=1000; -> -8 @6", "solution: u=999; -> 1", "solution: u=1000; -> -8 @2");
    }

    private static void powers() {
        CHECKS.run("equation: flow q^0; -> 1", "term 0 -> 1", "term 10 -> 0", "equation: flow q^1; -> 1", "term 10 -> 1",
            "equation: flow q^3; -> 1", "term 30 -> 1", "equation: flow q^4; -> 1", "term 40 -> 1",
            "equation: flow q^5; -> -8 @7", "equation: flow q^ 6; -> -8 @8", "equation: flow q^04; -> 1",
            "equation: flow q^05; -> -8 @7", "equation: flow q^10; -> -8 @7", "equation: flow q^4294967300; -> -8 @7",
            "equation: flow 0^0; -> 1", "term 0 -> 1", "equation: flow (q-q)^0; -> 1", "equation: flow (q-q)^1; -> 0",
            "equation: flow 5^4; -> 1", "term 0 -> 625", "equation: flow (1+u)^4; -> 5", "term 2000 -> 6",
            "equation: flow (1+u)^5; -> -8 @11", "equation: flow q^-1; -> -9 @7", "equation: flow q^(1); -> -9 @7",
            "equation: flow q^u; -> -9 @7", "equation: flow q^2^2; -> -9 @8");
        CHECKS.run("equation: curve u^4; -> 1", "equation: curve u^5; -> -8 @8", "field: u=x^4; -> 1",
            "field: u=x^5; -> -8 @4", "solution: u=x^4; -> 1", "solution: u=x^5; -> -8 @4");
    }

    /** Each small letter: which are letters of what is told. */
    private static void letters() {
        for (char c = 'a'; c <= 'z'; c++) {
            boolean flow = "xtupqr".indexOf(c) >= 0;
            boolean curve = "xup".indexOf(c) >= 0;
            CHECKS.run("equation: flow " + c + "; -> " + (flow ? "1" : "-9 @5"));
            CHECKS.run("equation: flow 2*" + c + "^3; -> " + (flow ? "1" : "-9 @7"));
            CHECKS.run("equation: curve " + c + "; -> " + (curve ? "1" : "-9 @6"));
            CHECKS.run(FLOW[0] + " -> 1", "field: t=" + c + "; -> " + ("xtu".indexOf(c) >= 0 ? "1" : "-9 @2"),
                "field: " + c + "=1; -> " + ("xtu".indexOf(c) >= 0 ? "1" : "-9 @0"),
                "solution: u=" + c + "; -> " + ("xt".indexOf(c) >= 0 ? "1" : "-9 @2"),
                "solution: " + c + "=1; -> " + (c == 'u' ? "1" : "-9 @0"));
            CHECKS.run(CURVE[0] + " -> 1", "field: u=" + c + "; -> " + ("xu".indexOf(c) >= 0 ? "1" : "-9 @2"),
                "field: " + c + "=1; -> " + ("xu".indexOf(c) >= 0 ? "1" : "-9 @0"),
                "solution: u=" + c + "; -> " + (c == 'x' ? "1" : "-9 @2"),
                "solution: " + c + "=1; -> " + (c == 'u' ? "1" : "-9 @0"));
        }
        // Letters are words: as many small letters as stand there.
        CHECKS.run("equation: flow xt; -> -9 @5", "equation: flow x t; -> -9 @7", "equation: flow X; -> -9 @5",
            "equation: flow x1; -> -9 @6", "equation: flow 1x; -> -9 @6", "equation: flow xx; -> -9 @5",
            "equation: flow x*qq; -> -9 @7", "equation: flow qX; -> -9 @6", "equation: flow xa; -> -9 @5",
            "equation: flow xz; -> -9 @5", "equation: flow x`; -> -9 @6", "equation: flow x{; -> -9 @6",
            "equation: flow 1/; -> -9 @6", "equation: flow 1:; -> -9 @6", "equation: flow 9; -> 1",
            "equation: flow flaw; -> -9 @5");
        int[] places = {100000, 10000, 1000, 100, 10, 1};
        for (int i = 0; i < 6; i++) {
            CHECKS.run("equation: flow 7*" + "xtupqr".charAt(i) + "; -> 1", "term " + places[i] + " -> 7");
        }
    }

    private static void termsAtLast() {
        CHECKS.run("equation: flow (1+x+t)*(1+u)*(1+p)-x*u*p; -> 11", "equation: flow (1+x+t)*(1+u)*(1+p); -> 12",
            "equation: flow (1+x+t)*(1+u)*(1+p)+q; -> -6 @;", "equation: flow (1+x+t)*(1+u)*(1+p)+q-q; -> 12",
            "equation: flow (1+x+t)*(1+u)*(1+p)+q-1; -> 12");
        CHECKS.run("equation: curve (1+x+x^2)*(1+u)*(1+p); -> 12", "equation: curve (1+x+x^2)*(1+u)*(1+p)+u^2; -> -6 @;");
        for (String word : List.of("x", "t", "u")) {
            CHECKS.run(FLOW[0] + " -> 1", "field: " + word + "=(1+x+t)*(1+u)*(1+u^2); -> 12",
                "field: " + word + "=(1+x+t)*(1+u)*(1+u^2)+x^2; -> -6 @;");
        }
        CHECKS.run(FLOW[0] + " -> 1", "solution: u=(1+x+x^2)*(1+t)*(1+t^2); -> 12",
            "solution: u=(1+x+x^2)*(1+t)*(1+t^2)+x^3; -> -6 @;", "solves -> 9");
    }

    private static void numbersAtLast() {
        for (String minus : List.of("", "-")) {
            String plus = minus.isEmpty() ? "+" : "-";
            String most = minus + "999*999" + plus + "999*2" + plus;
            CHECKS.run("equation: flow " + most + "0; -> 1", "term 0 -> " + minus + "999999",
                "equation: flow " + most + "1; -> 1", "term 0 -> " + minus + "1000000",
                "equation: flow " + most + "2; -> -6 @;", "term 0 -> " + minus + "1000000");
            CHECKS.run(FLOW[0] + " -> 1", "field: t=" + most + "1; -> 1", "rest 1 -> 1",
                "field: t=" + most + "2; -> -6 @;", "rest 1 -> 1");
            CHECKS.run("equation: flow 0; -> 0", "solution: u=t*(" + most + "1); -> 1", "left 0 0 -> " + minus + "1000000",
                "solution: u=t*(" + most + "2); -> -6 @;");
        }
    }

    private static void powersAtLast() {
        for (char c : "xtupqr".toCharArray()) {
            CHECKS.run("equation: flow " + c + "*" + c + "^3; -> 1", "equation: flow " + c + "*" + c + "^4; -> -6 @;",
                "equation: flow " + c + "^4*" + c + "^4; -> -6 @;",
                "equation: flow " + c + "^4*" + c + "-" + c + "^4*" + c + "; -> 0");
        }
        for (char c : "xup".toCharArray()) {
            CHECKS.run("equation: curve " + c + "^2*" + c + "^2; -> 1", "equation: curve " + c + "^2*" + c + "^3; -> -6 @;");
        }
        for (char c : "xtu".toCharArray()) {
            CHECKS.run(FLOW[0] + " -> 1", "field: u=" + c + "*" + c + "^3; -> 1", "field: u=" + c + "*" + c + "^4; -> -6 @;",
                "rest 1 -> 1");
        }
        for (char c : "xt".toCharArray()) {
            CHECKS.run(FLOW[0] + " -> 1", "solution: u=" + c + "*" + c + "^3; -> 1",
                "solution: u=" + c + "*" + c + "^4; -> -6 @;");
        }
        CHECKS.run("equation: flow x^4*t^4*u^4*p^4*q^4*r^4; -> 1", "term 444444 -> 1", "told 2 -> 3");
    }

    private static void termsOnTheWay() {
        CHECKS.run("equation: flow " + SIXTY + "*0; -> 0", "equation: flow 0*" + SIXTY + "; -> 0",
            "equation: flow (" + SIXTY + "-1)*0; -> 0");
        // By a sum, by a product, by a power.
        CHECKS.run("equation: flow (" + SIXTY + "+p)*0; -> -6 @;", "equation: flow (p+" + SIXTY + ")*0; -> -6 @;",
            "equation: flow (" + SIXTY + "+p-p)*0; -> -6 @;", "equation: flow (" + SIXTY + "+p)^0; -> -6 @;",
            "equation: flow (1+x)*(1+t)*(1+u)*(1+p)*(1+q)*0; -> 0",
            "equation: flow (1+x)*(1+t)*(1+u)*(1+p)*(1+q)*(1+r)*0; -> -6 @;",
            "equation: flow 0*(x+t+u+p+q+r)^3; -> 0", "equation: flow 0*(x+t+u+p+q+r+1)^3; -> -6 @;",
            "equation: flow 0*(x+t+u+p)^4; -> 0", "equation: flow 0*(x+t+u+p+q)^4; -> -6 @;");
        // Terms count when they are put together: 225 of 15 times 15 are 45.
        CHECKS.run("equation: flow 0*((1+x+t)^4*(1+x+t)^4); -> 0", "equation: flow 0*((1+x)^4*(1+t)^4); -> 0",
            "equation: flow 0*((1+x)^4*(1+t)^4*(1+u)); -> 0",
            "equation: flow 0*((1+x)^4*(1+t)^4*(1+u+u^2)); -> -6 @;",
            "equation: flow 0*((1+x)*(1+x)*(1+x)*(1+x)*(1+x)*(1+x)*(1+x)*(1+x)); -> 0");
    }

    private static void powersOnTheWay() {
        for (char c : "xtupqr".toCharArray()) {
            String twenty = "(" + c + "^4)^4*" + c + "^4";
            CHECKS.run("equation: flow " + twenty + "*0; -> 0", "equation: flow " + twenty + "*" + c + "*0; -> -6 @;",
                "equation: flow 0*(" + twenty + "); -> 0", "equation: flow 0*(" + c + "*" + twenty + "); -> -6 @;",
                "equation: flow 0*(" + twenty + "*" + (c == 'x' ? 'u' : 'x') + "); -> 0",
                "equation: flow " + twenty + "*0*" + c + "; -> 0",
                "equation: flow 0*(" + c + "*" + c + "^4)^4; -> 0", "equation: flow 0*(" + c + "^2*" + c + "^4)^4; -> -6 @;",
                "equation: flow " + twenty + "*" + c + "-" + twenty + "*" + c + "; -> -6 @;");
        }
    }

    private static void numbersOnTheWay() {
        CHECKS.run("equation: flow 0*(100^3); -> 0", "equation: flow 0*101^3; -> -6 @;", "equation: flow 0*10^4*100; -> 0",
            "equation: flow 0*(10^4*100*2); -> -6 @;", "equation: flow 0*(0-100)^3; -> 0", "equation: flow 0*(0-101)^3; -> -6 @;",
            "equation: flow 31^4; -> 1", "equation: flow 32^4; -> -6 @;", "equation: flow 32^3*30; -> 1",
            "equation: flow 32^3*31; -> -6 @;", "equation: flow (1-33)^3*31; -> -6 @;", "equation: flow 100^3+1-1; -> -6 @;",
            "equation: flow 100^3-1+1; -> 1", "equation: flow -100^3-1+1; -> -6 @;", "equation: flow -100^3+1-1; -> 1",
            "equation: flow 100^3*u+u-u; -> -6 @;", "equation: flow 100^3*u+p-u; -> 2", "term 1000 -> 999999",
            "equation: flow (100^3+1)^0; -> -6 @;", "equation: flow (100^3+u)^0; -> 1", "equation: flow 100^3*u*2*0; -> -6 @;",
            // Within one product what is above may be taken away again: (x + 1000 y)(x - 1000 y).
            "equation: flow 0*((x+999+1)*(x-999-1)); -> 0", "equation: flow 0*((x+999+2)*(x-999-2)); -> -6 @;",
            "equation: flow (999*999)*(999*999)*(999*999)*(999*999)*0; -> -6 @;");
        // A power is worked out from the left, and the first but one result of it counts, too.
        CHECKS.run("equation: flow 0*(u-999-2)^2; -> -6 @;", "equation: flow 0*(u-999-1)^2; -> 0",
            "equation: flow 0*(u-999-1)^3; -> -6 @;");
    }

    private static void brackets() {
        CHECKS.run("equation: flow ((((((q)))))); -> 1", "equation: flow (((((q))))); -> 1",
            "equation: flow (((((((q))))))); -> -7 @11", "equation: flow ((((((((q)))))))); -> -7 @11",
            "equation: flow ((((((q))))))*((((((q)))))); -> 1", "equation: flow ((((((q)+(q)*(q)^2))))); -> 2",
            "equation: flow ((((((q)+((q)))))); -> -7 @15", "equation: flow (((((( (; -> -7 @12",
            "equation: flow ((((((); -> -9 @11", "equation: flow ((((((q))))))); -> -9 @18",
            "equation: flow ((((((q)))))  ; -> -9 @19", "equation: flow (; -> -9 @6", "equation: flow ); -> -9 @5");
        // All six with sums, products and powers of their own: none runs into another's.
        CHECKS.run("equation: flow u+((((((q^2)))))); -> 2", "term 1000 -> 1", "term 20 -> 1",
            "equation: flow 3*x-2*(u+5*(1-(2+(p-(1+q^2*(3-r^2))^1*2)))^1); -> 6", "term 100000 -> 3", "term 1000 -> -2", "term 0 -> -10",
            "term 100 -> 10", "term 20 -> -60", "term 22 -> 20",
            "equation: flow (1+u*(1-x*(2+t^2*(1+p^3*(1+q^4*(5-r^2))))))^1; -> 7", "term 0 -> 1", "term 1000 -> 1", "term 101000 -> -2",
            "term 121000 -> -1", "term 121300 -> -1", "term 121340 -> -5", "term 121342 -> 1",
            "equation: flow 7-(6-(5-(4-(3-(2-u)^2)^1)^1)^1)^2; -> 5", "term 0 -> -29", "term 1000 -> 48", "term 2000 -> -28",
            "term 3000 -> 8", "term 4000 -> -1",
            "equation: flow 2*(3*(4*(5*(6*(7*u^2-1)+1)-1)+1)-1)+1-u*(u*(u*(u-1)+1)-1); -> 5", "term 2000 -> 5039", "term 0 -> -619",
            "term 4000 -> -1", "term 3000 -> 1", "term 1000 -> 1", "equation: flow -(-(-(-(-(-u^3)))))*(-(-(-(-(-(-u)))))); -> 1",
            "term 4000 -> 1");
        CHECKS.run("equation: curve ((((((u)))))); -> 1", "equation: curve (((((((u))))))); -> -7 @12",
            "field: x=((((((u)))))); -> 1", "field: x=1;u=(((((((u))))))); -> -7 @12", "solution: u=((((((x)))))); -> 1",
            "solution: u=(((((((x))))))); -> -7 @8");
    }

    private static void signs() {
        CHECKS.run("equation: flow -q; -> 1", "term 10 -> -1", "equation: flow --q; -> -9 @6", "equation: flow +q; -> -9 @5",
            "equation: flow q--u; -> -9 @7", "equation: flow q-(-u); -> 2", "term 1000 -> 1", "equation: flow q*-u; -> -9 @7",
            "equation: flow q*(-u); -> 1", "term 1010 -> -1", "equation: flow -q^2; -> 1", "term 20 -> -1",
            "equation: flow (-q)^2; -> 1", "term 20 -> 1", "equation: flow u-q-p; -> 3", "term 100 -> -1",
            "equation: flow -q+u; -> 2", "term 1000 -> 1", "equation: flow q**u; -> -9 @7", "equation: flow q*; -> -9 @7",
            "equation: flow *q; -> -9 @5", "equation: flow q+; -> -9 @7", "equation: flow ^2; -> -9 @5",
            "equation: flow ; -> -9 @5",
            "equation: flow =q; -> -9 @5", "equation: flow q=; -> -9 @6", "equation: flow q/2; -> -9 @6",
            "equation: flow q.; -> -9 @6",
            "equation: flow q,; -> -9 @6", "equation: flow 2*q^2*u; -> 1", "term 1020 -> 2", "equation: flow q+2*u^2*3; -> 2",
            "term 2000 -> 6", "equation: flow 2^2*3; -> 1", "term 0 -> 12", "equation: flow 2*3^2; -> 1", "term 0 -> 18");
    }

    private static void words() {
        CHECKS.run("equation: flow q; -> 1", "told 0 -> 1", "equation: curve u; -> 1", "told 0 -> 2", "equation: flo q; -> -9 @0",
            "equation: flows q; -> -9 @0", "equation: curv u; -> -9 @0", "equation: curves u; -> -9 @0",
            "equation: Flow q; -> -9 @0",
            "equation: FLOW q; -> -9 @0", "equation: fl ow q; -> -9 @0", "equation: flaw q; -> -9 @0",
            "equation: curse u; -> -9 @0", "equation: flowq; -> -9 @0", "equation: q; -> -9 @0",
            "equation: ; -> -9 @0", "equation: x; -> -9 @0", "equation: 3; -> -9 @0", "equation: (u); -> -9 @0",
            "equation: 1flow q; -> -9 @0", "equation: flow flow q; -> -9 @5", "equation: flow3; -> 1",
            "equation: flow(q); -> 1", "equation: flow-q; -> 1", "equation: curve3; -> 1", "told 0 -> 2",
            "equation: flow q;q -> -9 @7", "equation: flow q;; -> -9 @7", "equation: flow q;  1 -> -9 @9",
            "equation: flow q;\0 -> -9 @7", "equation: flow\0q; -> -9 @4", "equation: flow q\t; -> -9 @6",
            "equation: \nflow q; -> -9 @0",
            "equation: flow \u00e9; -> -9 @5", "equation: flow q\u00a0; -> -9 @6", "equation: flow q\u00bb -> -9 @6");
    }

    private static void blanks() {
        CHECKS.run("equation:   flow   -   12  *  (  q  +  3  )  ^  2   -  u  ;    -> 4", "term 20 -> -12", "term 10 -> -72",
            "term 0 -> -108", "term 1000 -> -1", "equation: flow 1 2; -> -9 @7", "equation: flow q ^ 2 ^ 2; -> -9 @11",
            "equation: flow   1000  ; -> -8 @7", "equation: flow   (  (((((  (; -> -7 @17",
            "equation: flow  x^4 * x  ; -> -6 @;");
        CHECKS.run(FLOW[0] + " -> 1", "field:  x  =  x  ;  u  =  1  ;   -> 2", "field:  x  =  x  ;   x = 1; -> -7 @14",
            "solution:   u  =  x  ;    -> 1", "solution:  u = 1 ;  u -> -9 @10");
    }

    private static void fields() {
        CHECKS.run(FLOW[0] + " -> 1", "field:  -> 0", "rest 1 -> 0", "field: u=1;t=2;x=3; -> 3", "rest 1 -> 3",
            "field: t=0; -> 0",
            "field: x=1; -> 1", "field: x=1;t=1; -> 2", "field: x=1;x=1; -> -7 @4", "field: x=1;t=1;t=1; -> -7 @8",
            "field: u=1;t=1;x=1;u=1; -> -7 @12", "field: x=1;u=1;t=1;t -> -7 @12", "field: x=1;u=1;t=1;p -> -9 @12",
            "field: x=1;u=1;t=1;1 -> -9 @12", "field: x=1;xx=1; -> -9 @4", "field: x=1;x1=1; -> -7 @4", "field: x=1 -> -9 @3",
            "field: x= -> -9 @2", "field: x -> -9 @1", "field: x=; -> -9 @2", "field: x==1; -> -9 @2", "field: x1; -> -9 @1",
            "field: =1; -> -9 @0", "field: ; -> -9 @0", "field: x=1;; -> -9 @4", "field: flow q; -> -9 @0", "rest 1 -> 2");
        CHECKS.run(CURVE[0] + " -> 1", "field: u=1;x=2; -> 2", "field: t=0; -> -9 @0", "field: x=1;u=1;t=0; -> -9 @8",
            "field: x=1;u=1;x=0; -> -7 @8", "field: x=u;u=u;u=u; -> -7 @8", "rest 1 -> 2");
        // The first E that is none, and no later one; told is all or nothing.
        CHECKS.run(FLOW[0] + " -> 1", "field: x=x^4*x;t=x^4*x; -> -6 @7", "field: x=1;t=x^4*x;x=1; -> -6 @11",
            "field: x=1;x=x^4*x; -> -7 @4", "rest 1 -> 0");
    }

    private static void solutions() {
        CHECKS.run(FLOW[0] + " -> 1", "solution: u=0; -> 0", "solution: u=x; -> 1", "solution: u=x -> -9 @3",
            "solution: u= -> -9 @2",
            "solution: u -> -9 @1", "solution:  -> -9 @0", "solution: =1; -> -9 @0", "solution: x; -> -9 @0",
            "solution: 1=u; -> -9 @0", "solution: uu=1; -> -9 @0", "solution: u=1;u=1; -> -9 @4", "solution: u=1;; -> -9 @4",
            "solution: u==1; -> -9 @2", "solution: u1; -> -9 @1", "solution: u=x^4*x; -> -6 @;", "left 0 0 -> 0",
            "shifted 1 0 -> 0",
            "solution: u=x^2; -> 1", "left 0 0 -> -2");
    }

    private static void firstFromTheLeft() {
        CHECKS.run("equation: flow 1000*(((((((q -> -8 @5", "equation: flow (((((((1000 -> -7 @11",
            "equation: flow s*1000; -> -9 @5",
            "equation: flow 1000*s; -> -8 @5", "equation: flow x^4*x*1000; -> -8 @11", "equation: flow x^4*x*s; -> -9 @11",
            "equation: flow x^4*x*(((((((q; -> -7 @17", "equation: flow x^4*x -> -9 @10", "equation: flow x^4*x;; -> -6 @;",
            "equation: flow x^4*x; s -> -6 @;", "equation: flow 1000;; -> -8 @5", "equation: flow q^5*1000; -> -8 @7",
            // Of one place the least: a number, a bracket, a ; where none can stand.
            "equation: flow q 1000; -> -9 @7", "equation: flow q^1 5; -> -9 @9", "equation: flow ((((((q(; -> -9 @12",
            "equation: flow ((((((q^(; -> -9 @13", "equation: flow x^4*x*(q; -> -9 @13", "equation: flow x^4*x+; -> -9 @11",
            "equation: flow x^4*x^; -> -9 @11");
    }

    private static void whatStays() {
        CHECKS.each(WHOLE, "equation 21 -> throws.IllegalArgumentException", "equation -1 -> throws.IllegalArgumentException",
            "equation -2147483648 -> throws.IllegalArgumentException", "equation 2147483647 -> throws.IllegalArgumentException",
            "field 21 -> throws.IllegalArgumentException", "field -1 -> throws.IllegalArgumentException",
            "field 2147483647 -> throws.IllegalArgumentException", "solution 21 -> throws.IllegalArgumentException",
            "solution -1 -> throws.IllegalArgumentException", "solution -2147483648 -> throws.IllegalArgumentException",
            "equation 0 -> -9 @0", "field 0 -> 0", "solution 0 -> -9 @0", "equation 12 -> -9 @12", "equation 13 -> 2",
            "equation 20 -> 2", "field 20 -> -9 @0", "solution 20 -> -9 @0");
        String[] told = java.util.Arrays.copyOf(WHOLE, WHOLE.length - 1);
        CHECKS.each(told, "equation 0 -> -9 @0", "equation 1 -> throws.IllegalArgumentException",
            "field 1 -> throws.IllegalArgumentException",
            "solution 1 -> throws.IllegalArgumentException", "equation: flow q -> -9 @6", "equation: flow 1000; -> -8 @5",
            "equation: flow (((((((q))))))); -> -7 @11", "equation: flow x^4*x; -> -6 @;", "field: p=1; -> -9 @0",
            "field: x=1000; -> -8 @2", "field: x=1;x=1; -> -7 @4", "field: x=x^4*x; -> -6 @;", "field: x=1; -> 1", "field:  -> 0",
            "solution: u=1;; -> -9 @4", "solution: u=1000; -> -8 @2", "solution: u=(((((((x))))))); -> -7 @8",
            "solution: u=x^4*x; -> -6 @;", "solution: u=1; -> 1", "solution: u=0; -> 0", "image -> 3", "restore -> 1");
        // A new equation: nothing is left of the old one, of what was told to it, and of what was asked of it.
        String[] equations = {"flow q;", "flow p^2;", "curve 0;", "flow r+6*u*p;", "curve 6*u^2;", "flow p^2;", "curve x*p+u;",
            "flow x^2*q+x*p+t;",
            "flow 2*p+4*p^2;", "curve p;", "flow u;", "curve x^2*p^3;", "flow q;"};
        for (int i = 1; i < equations.length; i++) {
            MotionSigns again = Checks.after("equation: " + equations[i - 1], "field: x=x+u;u=u^2+x;", "solution: u=x^4+x^3;",
                "image",
                "solution: u=x+1;");
            Checks.all(again, "EFS");
            Checks.ask(again, "equation: " + equations[i]);
            CHECKS.due(equations[i] + " told behind " + equations[i - 1], Checks.all(Checks.after("equation: " + equations[i]), "EFSI"),
                Checks.all(again, "EFSI"));
        }
        // So of a field, a solution, an image.
        String[][] others = {{"field: x=u;", "F"}, {"field: u=x^2+1;", "F"}, {"solution: u=x^3+x;", "S"}, {"solution: u=0;",
            "S"}};
        for (String equation : equations) {
            for (String[] other : others) {
                String[] first = {"equation: " + equation, "field: x=x+u;u=u^2+x;", "solution: u=x^4+x^3;"};
                MotionSigns mine = Checks.after(first);
                Checks.all(mine, "FS");
                Checks.ask(mine, other[0]);
                CHECKS.due(equation + " " + other[0], Checks.all(Checks.after(first[0], other[0]), other[1]), Checks.all(mine, other[1]));
                mine = Checks.after(first);
                Checks.ask(mine, "image");
                Checks.ask(mine, other[0]);
                Checks.all(mine, "FS");
                Checks.ask(mine, "restore");
                CHECKS.due(equation + " restore " + other[0], Checks.all(Checks.after(first), "FS"), Checks.all(mine, "FS"));
            }
        }
        // Without an equation a text of a field stays on the tape, and the fault stays.
        String[] none = {"equation: flow (q", "tape: flow 7*r^2+u;"};
        CHECKS.each(none, "field 20 -> throws.IllegalStateException", "field -1 -> throws.IllegalStateException",
            "field 21 -> throws.IllegalStateException", "solution 20 -> throws.IllegalStateException",
            "solution -1 -> throws.IllegalStateException", "solution 21 -> throws.IllegalStateException",
            "equation 21 -> throws.IllegalArgumentException", "fault -> 7", "count 1 -> 20");
    }
}
