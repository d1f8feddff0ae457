import java.math.BigInteger;
import java.util.ArrayList;
import java.util.List;

/** Rows of fractions (above, below), worked out in the plainest way. */
final class Rows {
    private Rows() {
    }

    record Frac(BigInteger above, BigInteger below) {
        static final Frac ZERO = new Frac(BigInteger.ZERO, BigInteger.ONE);

        static Frac of(BigInteger a, BigInteger b) {
            BigInteger g = a.gcd(b);
            if (b.signum() < 0) {
                g = g.negate();
            }
            return new Frac(a.divide(g), b.divide(g));
        }

        static Frac of(BigInteger a) {
            return new Frac(a, BigInteger.ONE);
        }

        Frac plus(Frac o) {
            return of(above.multiply(o.below).add(o.above.multiply(below)), below.multiply(o.below));
        }

        Frac times(Frac o) {
            return of(above.multiply(o.above), below.multiply(o.below));
        }

        Frac minus() {
            return new Frac(above.negate(), below);
        }

        Frac over(Frac o) {
            return of(above.multiply(o.below), below.multiply(o.above));
        }

        boolean isZero() {
            return above.signum() == 0;
        }
    }

    /** The reduced form with each row beginning with 1, rows of 0 left out. */
    static List<Frac[]> reduce(List<Frac[]> given, int width) {
        List<Frac[]> rows = new ArrayList<>();
        for (Frac[] r : given) {
            rows.add(r.clone());
        }
        int done = 0;
        for (int c = 0; c < width && done < rows.size(); c++) {
            int p = done;
            while (p < rows.size() && rows.get(p)[c].isZero()) {
                p++;
            }
            if (p == rows.size()) {
                continue;
            }
            Frac[] top = rows.remove(p);
            rows.add(done, top);
            Frac lead = top[c];
            for (int j = 0; j < width; j++) {
                top[j] = top[j].over(lead);
            }
            for (int i = 0; i < rows.size(); i++) {
                Frac f = rows.get(i)[c];
                if (i != done && !f.isZero()) {
                    for (int j = 0; j < width; j++) {
                        rows.get(i)[j] = rows.get(i)[j].plus(f.times(top[j]).minus());
                    }
                }
            }
            done++;
        }
        return new ArrayList<>(rows.subList(0, done));
    }

    static int rank(List<Frac[]> rows, int width) {
        return reduce(rows, width).size();
    }

    static int begin(Frac[] row) {
        int i = 0;
        while (row[i].isZero()) {
            i++;
        }
        return i;
    }

    /** All that the equations leave, as free rows. */
    static List<Frac[]> left(List<Frac[]> equations, int width) {
        List<Frac[]> r = reduce(equations, width);
        boolean[] begins = new boolean[width];
        for (Frac[] row : r) {
            begins[begin(row)] = true;
        }
        List<Frac[]> out = new ArrayList<>();
        for (int c = 0; c < width; c++) {
            if (!begins[c]) {
                Frac[] v = zeros(width);
                v[c] = Frac.of(BigInteger.ONE);
                for (Frac[] row : r) {
                    v[begin(row)] = row[c].minus();
                }
                out.add(v);
            }
        }
        return out;
    }

    static Frac[] zeros(int width) {
        Frac[] v = new Frac[width];
        java.util.Arrays.fill(v, Frac.ZERO);
        return v;
    }

    /** The base as the document tells it. */
    static List<BigInteger[]> base(List<Frac[]> equations, int width) {
        List<BigInteger[]> out = new ArrayList<>();
        for (Frac[] row : reduce(left(equations, width), width)) {
            BigInteger below = BigInteger.ONE;
            for (Frac f : row) {
                below = below.divide(below.gcd(f.below())).multiply(f.below());
            }
            BigInteger[] whole = new BigInteger[width];
            BigInteger g = BigInteger.ZERO;
            for (int j = 0; j < width; j++) {
                whole[j] = row[j].above().multiply(below.divide(row[j].below()));
                g = g.gcd(whole[j]);
            }
            for (int j = 0; j < width; j++) {
                whole[j] = whole[j].divide(g);
            }
            out.add(whole);
        }
        return out;
    }

    /** How many times each row of the base is in v; null, if v is no sum of them. */
    static Frac[] shares(List<BigInteger[]> base, BigInteger[] v) {
        int n = base.size();
        List<Frac[]> table = new ArrayList<>();
        for (int c = 0; c < v.length; c++) {
            Frac[] row = new Frac[n + 1];
            for (int k = 0; k < n; k++) {
                row[k] = Frac.of(base.get(k)[c]);
            }
            row[n] = Frac.of(v[c]);
            table.add(row);
        }
        Frac[] out = zeros(n);
        for (Frac[] row : reduce(table, n + 1)) {
            int b = begin(row);
            if (b == n) {
                return null;
            }
            out[b] = row[n];
        }
        return out;
    }
}
