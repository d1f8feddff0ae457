import java.math.BigInteger;
import java.util.Map;
import java.util.TreeMap;

/** A polynomial with whole numbers without bound; a key holds a power a letter: x t u, then the slopes of u. */
final class Pol {
    static final int LETTERS = 12;
    final TreeMap<String, BigInteger> terms = new TreeMap<>();

    static Pol of(long n) {
        return of(BigInteger.valueOf(n));
    }

    static Pol of(BigInteger n) {
        Pol p = new Pol();
        p.add(key(), n);
        return p;
    }

    static Pol letter(int i) {
        Pol p = new Pol();
        char[] c = key().toCharArray();
        c[i] = 1;
        p.add(new String(c), BigInteger.ONE);
        return p;
    }

    static String key(int... powers) {
        char[] c = new char[LETTERS];
        for (int i = 0; i < powers.length; i++) {
            c[i] = (char) powers[i];
        }
        return new String(c);
    }

    void add(String key, BigInteger n) {
        BigInteger sum = terms.getOrDefault(key, BigInteger.ZERO).add(n);
        if (sum.signum() == 0) {
            terms.remove(key);
        } else {
            terms.put(key, sum);
        }
    }

    Pol plus(Pol o) {
        Pol p = new Pol();
        terms.forEach(p::add);
        o.terms.forEach(p::add);
        return p;
    }

    Pol times(long n) {
        return times(of(n));
    }

    Pol less(Pol o) {
        return plus(o.times(-1));
    }

    Pol times(Pol o) {
        Pol p = new Pol();
        for (Map.Entry<String, BigInteger> a : terms.entrySet()) {
            for (Map.Entry<String, BigInteger> b : o.terms.entrySet()) {
                char[] c = a.getKey().toCharArray();
                for (int i = 0; i < LETTERS; i++) {
                    c[i] += b.getKey().charAt(i);
                }
                p.add(new String(c), a.getValue().multiply(b.getValue()));
            }
        }
        return p;
    }

    Pol power(int n) {
        Pol p = of(1);
        for (int i = 0; i < n; i++) {
            p = p.times(this);
        }
        return p;
    }

    Pol by(int letter) {
        Pol p = new Pol();
        for (Map.Entry<String, BigInteger> a : terms.entrySet()) {
            char[] c = a.getKey().toCharArray();
            int n = c[letter];
            if (n > 0) {
                c[letter]--;
                p.add(new String(c), a.getValue().multiply(BigInteger.valueOf(n)));
            }
        }
        return p;
    }

    /** What it is with other polynomials for its letters. */
    Pol put(Pol... instead) {
        Pol p = new Pol();
        for (Map.Entry<String, BigInteger> a : terms.entrySet()) {
            Pol t = of(a.getValue());
            for (int i = 0; i < LETTERS; i++) {
                Pol b = i < instead.length ? instead[i] : letter(i);
                for (int n = a.getKey().charAt(i); n > 0; n--) {
                    t = t.times(b);
                }
            }
            p = p.plus(t);
        }
        return p;
    }

    Pol wrapped() {
        Pol p = new Pol();
        terms.forEach((k, n) -> p.add(k, BigInteger.valueOf(n.longValue())));
        return p;
    }

    BigInteger at(int... powers) {
        return terms.getOrDefault(key(powers), BigInteger.ZERO);
    }

    int size() {
        return terms.size();
    }

    boolean fits(int most, int power) {
        BigInteger limit = BigInteger.valueOf(1_000_000);
        boolean good = size() <= most;
        for (Map.Entry<String, BigInteger> a : terms.entrySet()) {
            good = good && a.getValue().abs().compareTo(limit) <= 0;
            for (int i = 0; i < LETTERS; i++) {
                good = good && a.getKey().charAt(i) <= power;
            }
        }
        return good;
    }
}
