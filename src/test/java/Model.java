import java.math.BigInteger;
import java.util.ArrayList;
import java.util.Arrays;
import java.util.List;
import java.util.NoSuchElementException;

/** The document worked out word by word, with whole numbers and fractions without bound; slow on purpose. */
final class Model {
    static final int X = 0;
    static final int T = 1;
    static final int U = 2;
    static final int P = 3;
    static final int Q = 4;
    static final int R = 5;

    private byte[] tape = new byte[0];
    private int place = -1;
    private int sort;
    private Pol right = new Pol();
    private Pol[] move = none();
    private Pol guess = new Pol();
    private final List<Object[]> images = new ArrayList<>();
    private final List<BigInteger[]>[] bases = newBases();

    @SuppressWarnings("unchecked")
    private static List<BigInteger[]>[] newBases() {
        return new List[4];
    }

    private static Pol[] none() {
        return new Pol[] {new Pol(), new Pol(), new Pol()};
    }

    int feed(int a, int b, int c, int d, int e) {
        if (tape.length + 20 > 200) {
            return -1;
        }
        java.nio.ByteBuffer more = java.nio.ByteBuffer.allocate(tape.length + 20);
        more.put(tape).putInt(a).putInt(b).putInt(c).putInt(d).putInt(e);
        tape = more.array();
        return tape.length;
    }

    private ModelText text(int n) {
        if (n < 0 || n > tape.length) {
            throw new IllegalArgumentException();
        }
        ModelText text = new ModelText(Arrays.copyOf(tape, n));
        tape = new byte[0];
        return text;
    }

    int equation(int n) {
        ModelText text = text(n);
        int fault = text.equation();
        place = text.place;
        if (fault != 0) {
            return fault - 10;
        }
        sort = text.sort;
        right = text.parts[U];
        move = none();
        guess = new Pol();
        images.clear();
        Arrays.fill(bases, null);
        return right.size();
    }

    int field(int n) {
        need();
        ModelText text = text(n);
        int fault = text.field(sort);
        place = text.place;
        if (fault != 0) {
            return fault - 10;
        }
        move = text.parts;
        return move[0].size() + move[1].size() + move[2].size();
    }

    int solution(int n) {
        need();
        ModelText text = text(n);
        int fault = text.solution(sort);
        place = text.place;
        if (fault != 0) {
            return fault - 10;
        }
        guess = text.parts[U];
        return guess.size();
    }

    int fault() {
        return place;
    }

    int told(int what) {
        bound(what, 2);
        int order = 0;
        for (int k = 1; k <= 3; k++) {
            order = right.by(U + k).size() > 0 ? k : order;
        }
        return what == 0 ? sort : what == 1 ? right.size() : order;
    }

    private static int[] digits(int powers, int places, int most) {
        if (powers < 0) {
            throw new IllegalArgumentException();
        }
        String s = Integer.toString(powers);
        if (s.length() > places) {
            throw new IllegalArgumentException();
        }
        s = "0".repeat(places - s.length()) + s;
        int[] out = new int[places];
        for (int i = 0; i < places; i++) {
            out[i] = s.charAt(i) - '0';
            bound(out[i], most);
        }
        return out;
    }

    private static void bound(int what, int most) {
        if (what < 0 || what > most) {
            throw new IllegalArgumentException();
        }
    }

    private void need() {
        if (sort == 0) {
            throw new IllegalStateException();
        }
    }

    int term(int powers) {
        return right.at(digits(powers, 6, 4)).intValue();
    }

    /** The slope along x of the document's Terms 2. */
    private Pol along(Pol f) {
        Pol out = f.by(X).plus(f.by(U).times(Pol.letter(P)));
        if (sort == 2) {
            return out.plus(f.by(P).times(right));
        }
        for (int i = P; i + 1 < Pol.LETTERS; i++) {
            out = out.plus(f.by(i).times(Pol.letter(i + 1)));
        }
        return out;
    }

    private Pol along(Pol f, int n) {
        Pol out = f;
        for (int i = 0; i < n; i++) {
            out = along(out);
        }
        return out;
    }

    private Pol later(Pol f) {
        Pol out = f.by(T);
        for (int i = 0; i <= 4; i++) {
            Pol change = f.by(U + i);
            if (change.size() > 0) {
                out = out.plus(change.times(along(right, i)));
            }
        }
        return out;
    }

    private Pol restOf(Pol[] m) {
        Pol sign = m[U].less(m[X].times(Pol.letter(P)));
        if (sort == 2) {
            return along(sign, 2).less(right.by(U).times(sign)).less(right.by(P).times(along(sign)));
        }
        sign = sign.less(m[T].times(right));
        Pol out = later(sign);
        for (int k = 0; k <= 3; k++) {
            Pol change = right.by(U + k);
            if (change.size() > 0) {
                out = out.less(change.times(along(sign, k)));
            }
        }
        return out;
    }

    int rest(int what) {
        need();
        bound(what, 1);
        return what == 0 ? restOf(move).wrapped().size() : move[0].size() + move[1].size() + move[2].size();
    }

    boolean leaves() {
        need();
        return rest(0) == 0;
    }

    /** The unknowns: part, powers of x, t, u. */
    private List<int[]> unknowns(int d) {
        List<int[]> out = new ArrayList<>();
        for (int part = 0; part < 3; part++) {
            if (part == T && sort == 2) {
                continue;
            }
            for (int g = 0; g <= d; g++) {
                for (int i = g; i >= 0; i--) {
                    for (int j = g - i; j >= 0; j--) {
                        if (sort == 1 || j == 0) {
                            out.add(new int[] {part, i, j, g - i - j});
                        }
                    }
                }
            }
        }
        return out;
    }

    private static List<Rows.Frac[]> equations(List<Pol> rests) {
        java.util.TreeMap<String, Rows.Frac[]> rows = new java.util.TreeMap<>();
        for (int j = 0; j < rests.size(); j++) {
            int at = j;
            rests.get(j).terms.forEach((k, n) ->
                rows.computeIfAbsent(k, x -> Rows.zeros(rests.size()))[at] = Rows.Frac.of(n));
        }
        return new ArrayList<>(rows.values());
    }

    private List<BigInteger[]> base(int d) {
        need();
        bound(d, sort == 1 ? 2 : 3);
        if (bases[d] == null) {
            List<Pol> rests = new ArrayList<>();
            for (int[] u : unknowns(d)) {
                Pol[] m = none();
                m[u[0]].add(Pol.key(u[1], u[2], u[3]), BigInteger.ONE);
                rests.add(restOf(m));
            }
            bases[d] = Rows.base(equations(rests), rests.size());
        }
        return bases[d];
    }

    int fields(int d) {
        return base(d).size();
    }

    private static void row(List<BigInteger[]> base, int i) {
        if (i < 0 || i >= base.size()) {
            throw new NoSuchElementException();
        }
    }

    long number(int d, int i, int part, int powers) {
        List<BigInteger[]> base = base(d);
        row(base, i);
        bound(part, 2);
        if (part == T && sort == 2) {
            throw new IllegalArgumentException();
        }
        int[] p = digits(powers, 3, 3);
        return toField(d, base.get(i))[part].at(p).longValue();
    }

    private Pol[] toField(int d, BigInteger[] row) {
        Pol[] m = none();
        List<int[]> names = unknowns(d);
        for (int j = 0; j < row.length; j++) {
            int[] u = names.get(j);
            m[u[0]].add(Pol.key(u[1], u[2], u[3]), row[j]);
        }
        return m;
    }

    /** The numbers of a field by unknowns; null, if it has others. */
    private BigInteger[] toRow(int d, Pol[] m) {
        List<int[]> names = unknowns(d);
        BigInteger[] row = new BigInteger[names.size()];
        int found = 0;
        for (int j = 0; j < row.length; j++) {
            int[] u = names.get(j);
            row[j] = m[u[0]].at(u[1], u[2], u[3]);
            found += row[j].signum() == 0 ? 0 : 1;
        }
        return found == m[0].size() + m[1].size() + m[2].size() ? row : null;
    }

    private Rows.Frac[] shares(int d, Pol[] m) {
        BigInteger[] row = toRow(d, m);
        return row == null ? null : Rows.shares(base(d), row);
    }

    boolean within(int d) {
        base(d);
        return shares(d, move) != null;
    }

    private static Pol[] bracket(Pol[] v, Pol[] w) {
        Pol[] out = none();
        for (int c = 0; c < 3; c++) {
            for (int i = 0; i < 3; i++) {
                out[c] = out[c].plus(v[i].times(w[c].by(i))).less(w[i].times(v[c].by(i)));
            }
            out[c] = out[c].wrapped();
        }
        return out;
    }

    private Pol[] member(int d, int i) {
        Pol[] m = toField(d, base(d).get(i));
        for (int c = 0; c < 3; c++) {
            m[c] = m[c].wrapped();
        }
        return m;
    }

    private final java.util.HashMap<Integer, Rows.Frac[][][]> tables = new java.util.HashMap<>();

    private Rows.Frac[][][] table(int d) {
        int n = base(d).size();
        Rows.Frac[][][] c = new Rows.Frac[n][n][];
        for (int i = 0; i < n; i++) {
            for (int j = 0; j < n; j++) {
                c[i][j] = shares(d, bracket(member(d, i), member(d, j)));
                if (c[i][j] == null) {
                    return null;
                }
            }
        }
        return c;
    }

    boolean closed(int d) {
        base(d);
        return table(d) != null;
    }

    long constant(int d, int i, int j, int k, int what) {
        row(base(d), i);
        row(base(d), j);
        row(base(d), k);
        bound(what, 1);
        Rows.Frac[][][] c = table(d);
        if (c == null) {
            throw new IllegalArgumentException();
        }
        return (what == 0 ? c[i][j][k].above() : c[i][j][k].below()).longValue();
    }

    int kind(int d, int what) {
        base(d);
        bound(what, 3);
        Rows.Frac[][][] c = table(d);
        if (c == null) {
            throw new IllegalArgumentException();
        }
        int n = c.length;
        List<Rows.Frac[]> all = new ArrayList<>();
        for (int i = 0; i < n; i++) {
            Rows.Frac[] r = Rows.zeros(n);
            r[i] = Rows.Frac.of(BigInteger.ONE);
            all.add(r);
        }
        return switch (what) {
            case 0 -> Rows.rank(brackets(c, all), n);
            case 1 -> centre(c);
            case 2 -> form(c);
            default -> solvable(c, all);
        };
    }

    private static List<Rows.Frac[]> brackets(Rows.Frac[][][] c, List<Rows.Frac[]> rows) {
        int n = c.length;
        List<Rows.Frac[]> out = new ArrayList<>();
        for (Rows.Frac[] a : rows) {
            for (Rows.Frac[] b : rows) {
                Rows.Frac[] r = Rows.zeros(n);
                for (int i = 0; i < n; i++) {
                    for (int j = 0; j < n; j++) {
                        for (int k = 0; k < n && !a[i].isZero() && !b[j].isZero(); k++) {
                            r[k] = r[k].plus(a[i].times(b[j]).times(c[i][j][k]));
                        }
                    }
                }
                out.add(r);
            }
        }
        return Rows.reduce(out, n);
    }

    private static int centre(Rows.Frac[][][] c) {
        int n = c.length;
        List<Rows.Frac[]> eqs = new ArrayList<>();
        for (int j = 0; j < n; j++) {
            for (int k = 0; k < n; k++) {
                Rows.Frac[] r = new Rows.Frac[n];
                for (int i = 0; i < n; i++) {
                    r[i] = c[i][j][k];
                }
                eqs.add(r);
            }
        }
        return Rows.left(eqs, n).size();
    }

    private static int form(Rows.Frac[][][] c) {
        int n = c.length;
        List<Rows.Frac[]> rows = new ArrayList<>();
        for (int i = 0; i < n; i++) {
            Rows.Frac[] r = Rows.zeros(n);
            for (int j = 0; j < n; j++) {
                for (int k = 0; k < n; k++) {
                    for (int l = 0; l < n; l++) {
                        if (!c[i][k][l].isZero() && !c[j][l][k].isZero()) {
                            r[j] = r[j].plus(c[i][k][l].times(c[j][l][k]));
                        }
                    }
                }
            }
            rows.add(r);
        }
        return Rows.rank(rows, n);
    }

    private static int solvable(Rows.Frac[][][] c, List<Rows.Frac[]> all) {
        List<Rows.Frac[]> rows = all;
        for (int i = 0; i <= c.length && !rows.isEmpty(); i++) {
            rows = brackets(c, rows);
        }
        return rows.isEmpty() ? 1 : 0;
    }

    int steps(int d, int i, int j) {
        row(base(d), i);
        row(base(d), j);
        Pol[] w = member(d, j);
        for (int n = 1; n <= 8; n++) {
            w = bracket(member(d, i), w);
            if (w[0].size() + w[1].size() + w[2].size() == 0) {
                return n;
            }
        }
        return -1;
    }

    int bracket(int d, int i, int j) {
        row(base(d), i);
        row(base(d), j);
        Pol[] w = bracket(member(d, i), member(d, j));
        return w[0].size() + w[1].size() + w[2].size();
    }

    private static Rows.Frac[] ints(int... n) {
        Rows.Frac[] r = new Rows.Frac[n.length];
        for (int i = 0; i < n.length; i++) {
            r[i] = Rows.Frac.of(BigInteger.valueOf(n[i]));
        }
        return r;
    }

    private List<BigInteger[]> stretchBase() {
        need();
        List<Rows.Frac[]> eqs = new ArrayList<>();
        if (sort == 2) {
            eqs.add(ints(0, 1, 0));
        }
        for (String k : right.terms.keySet()) {
            int[] w = new int[3];
            w[0] += k.charAt(X);
            w[1] += k.charAt(T);
            for (int i = 0; i <= 3; i++) {
                w[2] += k.charAt(U + i);
                w[0] -= i * k.charAt(U + i);
            }
            w[2] -= 1;
            if (sort == 2) {
                w[0] += 2;
            } else {
                w[1] += 1;
            }
            eqs.add(ints(w));
        }
        return Rows.base(eqs, 3);
    }

    int stretches() {
        return stretchBase().size();
    }

    int stretch(int i, int what) {
        row(stretchBase(), i);
        bound(what, 2);
        return stretchBase().get(i)[what].intValue();
    }

    int keeps(int i, int j, int what) {
        row(stretchBase(), i);
        bound(what, 2);
        List<Rows.Frac[]> eqs = new ArrayList<>();
        BigInteger[] s = stretchBase().get(i);
        eqs.add(new Rows.Frac[] {Rows.Frac.of(s[0]), Rows.Frac.of(s[1]), Rows.Frac.of(s[2])});
        if (sort == 2) {
            eqs.add(ints(0, 1, 0));
        }
        List<BigInteger[]> kept = Rows.base(eqs, 3);
        if (j == -1) {
            return kept.size();
        }
        return j < 0 || j >= kept.size() ? 0 : kept.get(j)[what].intValue();
    }

    private static List<int[]> densities(int m) {
        List<int[]> out = new ArrayList<>();
        for (int g = 1; g <= m; g++) {
            for (int a = g; a >= 0; a--) {
                if (g - a != 1) {
                    out.add(new int[] {a, g - a});
                }
            }
        }
        return out;
    }

    private List<BigInteger[]> sumBase(int m) {
        need();
        if (m < 1 || m > 4 || sort == 2) {
            throw new IllegalArgumentException();
        }
        List<Pol> eulers = new ArrayList<>();
        for (int[] d : densities(m)) {
            Pol rho = Pol.letter(U).power(d[0]).times(Pol.letter(P).power(d[1]));
            Pol g = later(rho);
            Pol e = new Pol();
            for (int k = 0; k <= 4; k++) {
                e = e.plus(along(g.by(U + k), k).times(k % 2 == 0 ? 1 : -1));
            }
            eulers.add(e);
        }
        return Rows.base(equations(eulers), eulers.size());
    }

    int sums(int m) {
        return sumBase(m).size();
    }

    long sum(int m, int i, int a, int b) {
        List<BigInteger[]> base = sumBase(m);
        row(base, i);
        List<int[]> names = densities(m);
        for (int j = 0; j < names.size(); j++) {
            if (names.get(j)[0] == a && names.get(j)[1] == b) {
                return base.get(i)[j].longValue();
            }
        }
        return 0;
    }

    private Pol tried(Pol s) {
        Pol p = s.by(X);
        Pol q = p.by(X);
        Pol own = right.put(Pol.letter(X), Pol.letter(T), s, p, q, q.by(X));
        return (sort == 2 ? q : s.by(T)).less(own).wrapped();
    }

    int solves() {
        need();
        return tried(guess).size();
    }

    long left(int x, int t) {
        need();
        bound(x, 40);
        bound(t, sort == 2 ? 0 : 40);
        return tried(guess).at(x, t).longValue();
    }

    int shifted(int a, int b) {
        need();
        bound(a + 9, 18);
        bound(b + 9, 18);
        if (sort == 2 && b != 0) {
            throw new IllegalArgumentException();
        }
        return tried(guess.put(Pol.letter(X).less(Pol.of(a)), Pol.letter(T).less(Pol.of(b)))).size();
    }

    int stretched(int i, int s) {
        row(stretchBase(), i);
        bound(s - 2, 7);
        BigInteger[] w = stretchBase().get(i);
        Pol out = new Pol();
        for (String k : guess.terms.keySet()) {
            int e = w[2].intValue() - w[0].intValue() * k.charAt(X) - w[1].intValue() * k.charAt(T);
            if (e < 0) {
                return -1;
            }
            out.add(k, guess.terms.get(k).multiply(BigInteger.valueOf(s).pow(e)));
        }
        return tried(out).size();
    }

    int wave(int v, int powers) {
        need();
        bound(v + 99, 198);
        int[] p = digits(powers, 4, 4);
        if (sort == 2 || right.by(X).size() > 0 || right.by(T).size() > 0) {
            throw new IllegalArgumentException();
        }
        Pol w = Pol.letter(P).times(-v).less(right);
        return w.at(0, 0, p[0], p[1], p[2], p[3]).intValue();
    }

    int lines(int what) {
        need();
        bound(what, 2);
        if (sort != 2) {
            throw new IllegalArgumentException();
        }
        Pol[] f = new Pol[5];
        for (int i = 0; i < 5; i++) {
            f[i] = new Pol();
        }
        right.terms.forEach((k, n) -> {
            char[] c = k.toCharArray();
            int b = c[P];
            c[P] = 0;
            f[b].add(new String(c), n.negate());
        });
        if (f[4].size() > 0) {
            return what == 0 ? 0 : -1;
        }
        Pol one = f[3].by(X).by(X).times(3).less(f[2].by(X).by(U).times(2)).plus(f[1].by(U).by(U));
        one = one.less(f[1].times(f[3]).times(3).less(f[2].times(f[2])).by(X));
        one = one.plus(f[0].times(f[3]).by(U).times(3)).plus(f[3].times(f[0].by(U)).times(3));
        one = one.less(f[2].times(f[1].by(U)));
        Pol two = f[0].by(U).by(U).times(3).less(f[1].by(X).by(U).times(2)).plus(f[2].by(X).by(X));
        two = two.less(f[0].times(f[3]).by(X).times(3));
        two = two.less(f[1].times(f[1]).less(f[0].times(f[2]).times(3)).by(U));
        two = two.less(f[0].times(f[3].by(X)).times(3)).plus(f[1].times(f[2].by(X)));
        int a = one.wrapped().size();
        int b = two.wrapped().size();
        return what == 0 ? (a + b == 0 ? 1 : 0) : what == 1 ? a : b;
    }

    int image() {
        if (images.size() == 3) {
            return -1;
        }
        images.add(new Object[] {move, guess});
        return images.size();
    }

    int restore() {
        if (images.isEmpty()) {
            return -1;
        }
        Object[] o = images.remove(images.size() - 1);
        move = (Pol[]) o[0];
        guess = (Pol) o[1];
        return images.size();
    }

    int count(int what) {
        return what == 0 ? images.size() : what == 1 ? tape.length : -1;
    }
}
