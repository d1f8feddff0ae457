import java.util.NoSuchElementException;

/** Runs of drawn calls (always the same ones) on the class and on the model: all answers must be the same. */
public final class ModelTest {
    private static final String[] FLOWS = {
        "q", "q+u*p", "r+6*u*p", "r+u^2*p", "p", "0", "u", "q+u", "q-u+u^3", "u^2*q+2*u*p^2", "p^2", "q+p^2", "x*q",
        "t*q", "x^2*q+x*p", "p*q", "3*q+5*u*p", "r", "u*q", "1", "x", "u*p", "u^2*p", "p^3", "q^2", "u^3*r", "x*p+t*u",
        "7*q+11*p+13*u", "q+x", "u*p+x*u", "-u*r+p*q", "u^2", "997*q+991*u*p", "2*q+3*u*p+5*u", "r-q*p", "x*p", "t*p",
        "u*p+t*p", "q+t*x", "5*p^2+3*q+2", "3*r+2*p^2", "x*t*q", "r+t*u*p", "2*p+3*u*p", "999*999*q+u*p", "q*r", "t", "x*u",
        "(1+x)*q", "(x+t)*p", "p^4", "u^4*q", "(u+3)*p", "(2*u+3)*q", "999*998*q+997*996*u*p+995*994*u+993*992*p",
        "999*998*p+997*996*u+995*994*x+991*983*t", "499*983*r+977*971*u*p+967*953*p+947*941*u+1",
        "r+16*q+999*487*p+219*p-999*608-925+999*890*t+869*t", "128*p*p-128*128*p"};
    private static final String[] CURVES = {
        "0", "6*u^2", "u", "p", "p^2", "x", "u^3", "-u", "3*p", "p^3", "u*p", "u^2+x", "p^4", "2*p+u", "x*p", "x^2*u",
        "u*p^2", "-3*u*p-u^3", "7*p+11*u+13", "5*p-6*u", "p^2+u", "x*p^3", "2*p^2+3*p", "997*p+991*u+983", "u^3+p",
        "-u", "u^2*p", "x*u", "(x+u)*p", "p^3+p", "p^2*(1+u)", "999*998*p+997*991*u+983*977*x+971", "x+p", "u+x^3",
        "999*p^2+998*p+997", "3*p^3+2*p^2+p+1", "4*p-4*u", "(p-1)^3", "-(p-2)^2", "(p-u)^2", "(x*p-u)^3", "999*999*u"};
    private long state;
    private int wrong;
    private int calls;
    // An object is used for at most 512 calls after it has been made.
    private int left;
    private int run;
    private MotionSigns mine;
    private Model model;
    private final StringBuilder story = new StringBuilder();

    public static void main(String[] args) {
        int from = args.length > 0 ? Integer.parseInt(args[0]) : 0;
        int to = args.length > 1 ? Integer.parseInt(args[1]) : 2500;
        ModelTest test = new ModelTest();
        for (int i = from; i < to && test.wrong < 5; i++) {
            test.oneRun(i);
        }
        for (int i = from; i < from + (to - from) / 100 && test.wrong < 5; i++) {
            test.longRun(1_000_000 + i);
        }
        System.out.println("ModelTest: " + test.calls + " calls, " + test.wrong + " wrong");
        if (test.wrong > 0 || test.calls == 0) {
            System.exit(1);
        }
    }

    private int draw(int n) {
        state = state * 6364136223846793005L + 1442695040888963407L;
        return (int) Long.remainderUnsigned(state >>> 33, n);
    }

    private String pick(String... s) {
        return s[draw(s.length)];
    }

    private interface Call {
        long answer();
    }

    private static long outcome(Call c) {
        try {
            return c.answer();
        } catch (IllegalStateException e) {
            return Long.MIN_VALUE + 101;
        } catch (IllegalArgumentException e) {
            return Long.MIN_VALUE + 102;
        } catch (NoSuchElementException e) {
            return Long.MIN_VALUE + 103;
        }
    }

    private long check(String call, Call a, Call b) {
        if (left == 0) {
            return 0;
        }
        left--;
        long got = outcome(a);
        long due = outcome(b);
        calls++;
        story.append(call).append(" -> ").append(due).append('\n');
        if (got != due) {
            wrong++;
            System.out.println("run " + run + "\n" + story + "answered " + got);
            story.setLength(0);
        }
        return got;
    }

    private void begin(int number) {
        run = number;
        left = 512;
        state = number * 7919L + 17;
        for (int i = 0; i < 5; i++) {
            draw(9);
        }
        mine = new MotionSigns();
        model = new Model();
        story.setLength(0);
    }

    /** All 512 calls of one object: its last one is right, too. */
    private void longRun(int number) {
        begin(number);
        while (left > 0 && wrong < 5) {
            tellEquation();
            for (int j = 0; j < 3; j++) {
                ask(5 + draw(12));
                tellOther();
                ask(5 + draw(12));
            }
        }
    }

    private void oneRun(int number) {
        begin(number);
        int tells = 1 + draw(5);
        if (draw(4) == 0) {
            ask(5);
        }
        for (int i = 0; i < tells && wrong < 5; i++) {
            tellEquation();
            if (draw(4) == 0) {
                sweep();
            }
            ask(5 + draw(25));
            for (int j = draw(4); j > 0; j--) {
                tellOther();
                ask(3 + draw(10));
            }
        }
    }

    /** Feeds a text and tells it; sometimes with other bytes behind it, sometimes too short. */
    private void tell(int which, String text) {
        byte[] bytes = new byte[(text.length() + 19) / 20 * 20];
        for (int i = 0; i < text.length(); i++) {
            bytes[i] = (byte) text.charAt(i);
        }
        for (int i = 0; i < bytes.length; i += 20) {
            int[] w = new int[5];
            for (int j = 0; j < 20; j++) {
                w[j / 4] = w[j / 4] << 8 | bytes[i + j] & 255;
            }
            check("feed", () -> mine.feed(w[0], w[1], w[2], w[3], w[4]), () -> model.feed(w[0], w[1], w[2], w[3], w[4]));
        }
        int n = draw(30) == 0 ? draw(text.length() + 30) - 5 : text.length();
        String name = which == 0 ? "equation" : which == 1 ? "field" : "solution";
        check(name + "(" + n + ") <" + text + ">",
            () -> which == 0 ? mine.equation(n) : which == 1 ? mine.field(n) : mine.solution(n),
            () -> which == 0 ? model.equation(n) : which == 1 ? model.field(n) : model.solution(n));
        check("fault()", mine::fault, model::fault);
        check("count(1)", () -> mine.count(1), () -> model.count(1));
        if (draw(20) == 0) {
            drain();
        }
    }

    // An ended text empties the tape; so does any text once it is read.
    private void drain() {
        check("solution(0)", () -> mine.solution(0), () -> model.solution(0));
    }

    private String spoil(String text) {
        StringBuilder s = new StringBuilder(text);
        for (int i = draw(3); i > 0; i--) {
            int at = draw(s.length() + 1);
            String bits = "+-*^();= 0159xtupqrsvflow";
            switch (draw(4)) {
                case 0 -> s.insert(at, bits.charAt(draw(bits.length())));
                case 1 -> s.insert(at, pick("(", ")", "^2", "^5", "999*999*", "((", "1000", "\u00e9", "\t", "x ", ";", "X"));
                case 2 -> {
                    if (at < s.length()) {
                        s.deleteCharAt(at);
                    }
                }
                default -> {
                    if (at < s.length()) {
                        s.setCharAt(at, bits.charAt(draw(bits.length())));
                    }
                }
            }
        }
        return s.length() > 200 ? s.substring(0, 200) : s.toString();
    }

    private String airy(String text) {
        if (draw(3) > 0) {
            return text;
        }
        StringBuilder s = new StringBuilder();
        for (int i = 0; i < text.length(); i++) {
            boolean inWord = i > 0 && Character.isLetterOrDigit(text.charAt(i)) && Character.isLetterOrDigit(text.charAt(i - 1));
            if (!inWord && draw(2) == 0) {
                s.append(draw(3) == 0 ? "  " : " ");
            }
            s.append(text.charAt(i));
        }
        return s.append(draw(2) == 0 ? " " : "").toString();
    }

    private String finish(String text) {
        String s = airy(text);
        s = draw(5) == 0 ? spoil(s) : s;
        return s.length() > 200 ? text : s;
    }

    private String atom(String letters, int depth) {
        int kind = draw(10);
        if (kind < 6) {
            String l = letters.charAt(draw(letters.length())) + "";
            return draw(3) == 0 ? l + "^" + draw(5) : l;
        }
        if (kind < 9 || depth > 2) {
            return draw(8) == 0 ? 900 + draw(100) + "*" + (800 + draw(200)) : draw(5) == 0 ? "" + draw(1000) : "" + draw(10);
        }
        String s = "(" + expression(letters, depth + 1, 2) + ")";
        return draw(2) == 0 ? s + "^" + draw(4) : s;
    }

    private String expression(String letters, int depth, int terms) {
        StringBuilder s = new StringBuilder(draw(4) == 0 ? "-" : "");
        for (int i = 1 + draw(terms); i > 0; i--) {
            s.append(atom(letters, depth));
            for (int j = draw(3); j > 0; j--) {
                s.append('*').append(atom(letters, depth));
            }
            if (i > 1) {
                s.append(pick("+", "-"));
            }
        }
        return s.toString();
    }

    /** Many terms of high powers and with great numbers. */
    private String heavy(String letters, int terms) {
        StringBuilder s = new StringBuilder();
        for (int i = 1 + draw(terms); i > 0; i--) {
            s.append(draw(3) == 0 ? 1 + draw(9) : draw(1000));
            if (draw(3) == 0) {
                s.append('*').append(draw(1000));
            }
            for (char c : letters.toCharArray()) {
                if (draw(2) == 0) {
                    s.append('*').append(c).append(draw(2) == 0 ? "" : "^" + draw(5));
                }
            }
            if (i > 1) {
                s.append(pick("+", "-"));
            }
        }
        return s.length() < 180 ? s.toString() : "1";
    }

    /** Few terms with small numbers and powers: such have many signs. */
    private String small(String letters) {
        StringBuilder s = new StringBuilder(draw(3) == 0 ? "-" : "");
        for (int i = 1 + draw(3); i > 0; i--) {
            s.append(1 + draw(5));
            for (int j = draw(3); j > 0; j--) {
                s.append('*').append(letters.charAt(draw(letters.length()))).append(draw(4) == 0 ? "^2" : "");
            }
            if (i > 1) {
                s.append(pick("+", "-"));
            }
        }
        return s.toString();
    }

    /** Curves that become straight lines by one change of x and one of u (with a fault at times). */
    private String bent() {
        int a = 1 + draw(9);
        int b = 1 + draw(5);
        int c = b + (draw(5) == 0 ? 1 : 0);
        return switch (draw(4)) {
            case 0 -> a + "*(u+" + b + "*x)^2*(p+" + c + ")^3";
            case 1 -> a + "*(p+" + 2 * b + "*x)^3-" + 2 * c + pick("", "", "*x", "*u");
            case 2 -> "-3*(u+" + b + "*x)*(p+" + c + ")-(u+" + b + "*x)^3";
            default -> "3*(x+" + b + "*u)*p^2*(1+" + b + "*p)+(x+" + c + "*u)^3*p^3";
        };
    }

    /** Numbers that are mostly two's powers: such brackets wrap to the least long, or to 0. */
    private String even(boolean flow) {
        String[] parts = pick(flow ? new String[] {"p*p,p", "p*p,p,t", "u*p,u,p", "p,r,t,q", "q,u,t,1"}
            : new String[] {"p,x,1", "p,u,x", "p*p,p,1", "u,x*x*x,x"}).split(",");
        StringBuilder s = new StringBuilder();
        for (int i = 0; i < parts.length; i++) {
            s.append(i == 0 ? "" : pick("+", "-"));
            s.append(1 << draw(10)).append('*').append(draw(2) == 0 ? 1 << draw(10) : 1 + draw(9)).append('*').append(parts[i]);
        }
        return s.toString();
    }

    private void sweep() {
        for (int d = 0; d <= 3; d++) {
            int g = d;
            check("fields(" + d + ")", () -> mine.fields(g), () -> model.fields(g));
            check("closed(" + d + ")", () -> mine.closed(g) ? 1 : 0, () -> model.closed(g) ? 1 : 0);
            check("sums(" + (d + 1) + ")", () -> mine.sums(g + 1), () -> model.sums(g + 1));
            check("lines(" + d + ")", () -> mine.lines(g), () -> model.lines(g));
            check("keeps(0, " + (d - 1) + ", 1)", () -> mine.keeps(0, g - 1, 1), () -> model.keeps(0, g - 1, 1));
            for (int what = 0; what <= 3; what++) {
                int w = what;
                check("kind(" + d + ", " + w + ")", () -> mine.kind(g, w), () -> model.kind(g, w));
            }
        }
    }

    private void tellEquation() {
        boolean flow = draw(5) < 3;
        String right;
        if (draw(5) == 0) {
            right = small(flow ? pick("xtupqr", "upq", "up", "xtu", "tup") : "xup");
        } else if (draw(12) == 0) {
            right = even(flow);
        } else if (!flow && draw(6) == 0) {
            right = bent();
        } else if (draw(9) == 0) {
            right = heavy(flow ? pick("xtupqr", "upqr", "xtu", "up", "xu") : "xup", 9);
        } else if (draw(3) > 0) {
            right = flow ? pick(FLOWS) : pick(CURVES);
            if (draw(4) == 0) {
                right = right + pick("+", "-") + (flow ? pick(FLOWS) : pick(CURVES));
            }
        } else {
            right = expression(flow ? pick("xtupqr", "upq", "upr", "up", "xup") : pick("xup", "up", "xu"), 0, 1 + draw(4));
        }
        tell(0, finish((flow ? "flow " : "curve ") + right + ";"));
    }

    private void tellOther() {
        boolean curve = draw(3) == 0;
        if (draw(2) == 0) {
            String letters = curve ? "x" : "xt";
            String e = draw(3) == 0 ? pick("x^2+2*t", "x", "x+t", "3*x-7", "x^3+6*t*x", "0", "t", "1-x", "x^2", "5")
                : draw(4) == 0 ? heavy(letters, 9) : expression(letters, 0, 1 + draw(4));
            tell(2, finish("u=" + e + ";"));
            return;
        }
        StringBuilder s = new StringBuilder();
        String letters = curve ? "xu" : "xtu";
        for (String part : new String[] {"x", "t", "u", "u", "x"}) {
            if (draw(part.equals("t") && curve ? 12 : 3) == 0) {
                s.append(part).append('=');
                s.append(draw(3) == 0 ? pick("x", "1", "t", "2*t", "u", "-u", "x*t", "x^2", "x*u") : draw(4) == 0 ? heavy(letters, 3) : expression(letters, 1, 1 + draw(3)));
                s.append(';');
            }
        }
        tell(1, finish(s.toString()));
    }

    private int near(int most) {
        return draw(9) == 0 ? draw(2 * most + 6) - most - 2 : draw(most + 1);
    }

    private int powers(int places, int most) {
        int n = 0;
        for (int i = 0; i < places; i++) {
            n = 10 * n + (draw(2) == 0 ? 0 : draw(most + 1));
        }
        return switch (draw(25)) {
            case 0 -> -n;
            case 1 -> 10 * n + 1;
            case 2 -> n + 5;
            default -> n;
        };
    }

    private void ask(int times) {
        for (int i = 0; i < times && wrong < 5; i++) {
            int group = draw(10);
            if (group < 4) {
                askFields();
            } else if (group < 7) {
                askWeights();
            } else {
                askOthers();
            }
        }
    }

    private void askFields() {
        int d = draw(12) == 0 ? draw(8) - 2 : draw(4);
        int n = Math.max(0, (int) outcome(() -> model.fields(d)));
        int i = near(Math.max(0, n - 1));
        int j = near(Math.max(0, n - 1));
        int k = near(Math.max(0, n - 1));
        int w = near(1);
        int v = near(3);
        int part = near(2);
        int powers = powers(3, d == 3 ? 3 : 2);
        String at = d + ", " + i + ", " + j;
        switch (draw(8)) {
            case 0 -> check("fields(" + d + ")", () -> mine.fields(d), () -> model.fields(d));
            case 1 -> check("number(" + d + ", " + i + ", " + part + ", " + powers + ")",
                () -> mine.number(d, i, part, powers), () -> model.number(d, i, part, powers));
            case 2 -> check("within(" + d + ")", () -> mine.within(d) ? 1 : 0, () -> model.within(d) ? 1 : 0);
            case 3 -> check("closed(" + d + ")", () -> mine.closed(d) ? 1 : 0, () -> model.closed(d) ? 1 : 0);
            case 4 -> check("constant(" + at + ", " + k + ", " + w + ")",
                () -> mine.constant(d, i, j, k, w), () -> model.constant(d, i, j, k, w));
            case 5 -> check("kind(" + d + ", " + v + ")", () -> mine.kind(d, v), () -> model.kind(d, v));
            case 6 -> check("steps(" + at + ")", () -> mine.steps(d, i, j), () -> model.steps(d, i, j));
            default -> check("bracket(" + at + ")", () -> mine.bracket(d, i, j), () -> model.bracket(d, i, j));
        }
    }

    private void askWeights() {
        int i = near(2);
        int j = draw(4) - 1;
        int w = near(2);
        int m = draw(9) == 0 ? draw(8) - 1 : 1 + draw(4);
        int a = near(4);
        int b = near(4);
        int s = draw(9) == 0 ? draw(12) : 2 + draw(8);
        int x = draw(20) == 0 ? 38 + draw(5) : draw(20) == 0 ? -1 : draw(9);
        int t = draw(20) == 0 ? 38 + draw(5) : draw(20) == 0 ? -1 : draw(2) == 0 ? 0 : draw(9);
        int sx = draw(12) == 0 ? draw(23) - 11 : draw(7) - 3;
        int st = draw(12) == 0 ? draw(23) - 11 : draw(3) == 0 ? draw(5) - 2 : 0;
        switch (draw(9)) {
            case 0 -> check("stretches()", mine::stretches, model::stretches);
            case 1 -> check("stretch(" + i + ", " + w + ")", () -> mine.stretch(i, w), () -> model.stretch(i, w));
            case 2 -> check("keeps(" + i + ", " + j + ", " + w + ")", () -> mine.keeps(i, j, w), () -> model.keeps(i, j, w));
            case 3 -> check("sums(" + m + ")", () -> mine.sums(m), () -> model.sums(m));
            case 4 -> check("sum(" + m + ", " + i + ", " + a + ", " + b + ")",
                () -> mine.sum(m, i, a, b), () -> model.sum(m, i, a, b));
            case 5 -> check("solves()", mine::solves, model::solves);
            case 6 -> check("left(" + x + ", " + t + ")", () -> mine.left(x, t), () -> model.left(x, t));
            case 7 -> check("shifted(" + sx + ", " + st + ")", () -> mine.shifted(sx, st), () -> model.shifted(sx, st));
            default -> check("stretched(" + i + ", " + s + ")", () -> mine.stretched(i, s), () -> model.stretched(i, s));
        }
    }

    private void askOthers() {
        int w = near(2);
        int v = draw(12) == 0 ? draw(220) - 110 : draw(19) - 9;
        int wp = draw(2) == 0 ? new int[] {10, 100, 1100, 1, 1000, 200, 0}[draw(7)] : powers(4, 4);
        int six = powers(6, 4);
        switch (draw(10)) {
            case 0 -> check("told(" + w + ")", () -> mine.told(w), () -> model.told(w));
            case 1 -> check("term(" + six + ")", () -> mine.term(six), () -> model.term(six));
            case 2 -> check("term(" + wp + ")", () -> mine.term(wp), () -> model.term(wp));
            case 3 -> check("rest(" + w + ")", () -> mine.rest(w), () -> model.rest(w));
            case 4 -> check("leaves()", () -> mine.leaves() ? 1 : 0, () -> model.leaves() ? 1 : 0);
            case 5 -> check("wave(" + v + ", " + wp + ")", () -> mine.wave(v, wp), () -> model.wave(v, wp));
            case 6 -> check("lines(" + w + ")", () -> mine.lines(w), () -> model.lines(w));
            case 7 -> check("image()", mine::image, model::image);
            case 8 -> check("restore()", mine::restore, model::restore);
            default -> check("count(" + w + ")", () -> mine.count(w), () -> model.count(w));
        }
    }
}
