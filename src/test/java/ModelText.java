import java.util.ArrayList;
import java.util.List;

/** Texts by the document's Terms 1: first cut into tokens, then read. */
final class ModelText {
    int place = -1;
    int sort;
    Pol[] parts = {new Pol(), new Pol(), new Pol()};

    private final int length;
    private final List<String> tokens = new ArrayList<>();
    private final List<Integer> starts = new ArrayList<>();
    private int next;
    private int open;
    private String letters = "";
    private boolean over;

    private static final class Fault extends RuntimeException {
        private static final long serialVersionUID = 1;
        final int number;
        final int place;

        Fault(int number, int place) {
            super(null, null, false, false);
            this.number = number;
            this.place = place;
        }
    }

    ModelText(byte[] bytes) {
        StringBuilder s = new StringBuilder();
        for (byte b : bytes) {
            s.append((char) (b & 255));
        }
        length = s.length();
        java.util.regex.Matcher m = java.util.regex.Pattern.compile("(?s) *([0-9]+|[a-z]+|[^ ])").matcher(s);
        while (m.find()) {
            tokens.add(m.group(1));
            starts.add(m.start(1));
        }
    }

    private String peek() {
        return next < tokens.size() ? tokens.get(next) : "";
    }

    private int here() {
        return next < starts.size() ? starts.get(next) : length;
    }

    private Fault wrong(int number) {
        return new Fault(number, here());
    }

    private boolean eats(String token) {
        if (!peek().equals(token)) {
            return false;
        }
        next++;
        return true;
    }

    private void must(String token) {
        if (!eats(token)) {
            throw wrong(1);
        }
    }

    private int run(Runnable reading) {
        try {
            reading.run();
            return 0;
        } catch (Fault f) {
            place = f.place;
            return f.number;
        }
    }

    int equation() {
        return run(() -> {
            sort = peek().equals("flow") ? 1 : peek().equals("curve") ? 2 : 0;
            if (sort == 0) {
                throw wrong(1);
            }
            next++;
            letters = sort == 1 ? "xtupqr" : "xup";
            parts[2] = statement();
            end();
        });
    }

    int solution(int kind) {
        return run(() -> {
            must("u");
            must("=");
            letters = kind == 2 ? "x" : "xt";
            parts[2] = statement();
            end();
        });
    }

    int field(int kind) {
        return run(() -> {
            letters = kind == 2 ? "xu" : "xtu";
            boolean[] seen = new boolean[3];
            while (!peek().isEmpty()) {
                String word = peek();
                if (word.length() != 1 || letters.indexOf(word) < 0) {
                    throw wrong(1);
                }
                int part = "xtu".indexOf(word);
                if (seen[part]) {
                    throw wrong(3);
                }
                seen[part] = true;
                next++;
                must("=");
                parts[part] = statement();
            }
        });
    }

    private void end() {
        if (!peek().isEmpty()) {
            throw wrong(1);
        }
    }

    private Pol statement() {
        over = false;
        Pol p = sum();
        if (!peek().equals(";")) {
            throw wrong(1);
        }
        if (over || !p.fits(12, 4)) {
            throw wrong(4);
        }
        next++;
        return p;
    }

    private Pol settled(Pol p) {
        over = over || !p.fits(60, 20);
        return over ? new Pol() : p;
    }

    private Pol sum() {
        boolean minus = eats("-");
        Pol p = product();
        p = minus ? p.times(-1) : p;
        while (true) {
            if (eats("+")) {
                p = settled(p.plus(product()));
            } else if (eats("-")) {
                p = settled(p.less(product()));
            } else {
                return p;
            }
        }
    }

    private Pol product() {
        Pol p = unit();
        while (eats("*")) {
            p = settled(p.times(unit()));
        }
        return p;
    }

    private int number(int most) {
        String s = peek();
        if (s.isEmpty() || !Character.isDigit(s.charAt(0))) {
            throw wrong(1);
        }
        java.math.BigInteger n = new java.math.BigInteger(s);
        if (n.compareTo(java.math.BigInteger.valueOf(most)) > 0) {
            throw wrong(2);
        }
        next++;
        return n.intValue();
    }

    private Pol unit() {
        Pol b = base();
        if (!eats("^")) {
            return b;
        }
        int n = number(4);
        Pol p = n == 0 ? Pol.of(1) : b;
        for (int i = 1; i < n; i++) {
            p = settled(p.times(b));
        }
        return p;
    }

    private Pol base() {
        String s = peek();
        if (s.length() == 1 && letters.contains(s)) {
            next++;
            return Pol.letter("xtupqr".indexOf(s));
        }
        if (!s.isEmpty() && s.charAt(0) >= '0' && s.charAt(0) <= '9') {
            return Pol.of(number(999));
        }
        if (!s.equals("(")) {
            throw wrong(1);
        }
        if (open == 6) {
            throw wrong(3);
        }
        open++;
        next++;
        Pol p = sum();
        must(")");
        open--;
        return p;
    }
}
