import java.util.Arrays;
import java.util.NoSuchElementException;

/**
 * Signs of motion: which fields of shifts, stretches and turns leave an equation of change, told as a text.
 */
public final class MotionSigns {
    public static final int NONE = -1;

    private static final int TAPE_MOST = 200;
    private static final int IMAGES_MOST = 3;
    private static final int DEGREES = 4;
    private static final int UNKNOWNS_MOST = 30;
    private static final int FLOW = 1;
    private static final int CURVE = 2;

    // The letters in the order of the document's digits; behind R come the next slopes.
    private static final int X = 0;
    private static final int T = 1;
    private static final int U = 2;
    private static final int P = 3;
    private static final int Q = 4;
    private static final int R = 5;
    private static final int LAST = 8;
    // Nine letters of seven bits: no power that any call can reach (68 is the greatest) runs into the next letter.
    private static final int BITS = 7;
    private static final int MASK = 127;
    // Fields have no slopes, so the last letter's place tells the part (X, T, U) that a term belongs to.
    private static final int PART = LAST;

    private static final int[] UNKNOWNS_BY_DEGREE = {3, 12, 30, 20};
    private static final int[] CHOOSE = {
        1, 0, 0, 0, 0,
        1, 1, 0, 0, 0,
        1, 2, 1, 0, 0,
        1, 3, 3, 1, 0,
        1, 4, 6, 4, 1};

    private final byte[] tape = new byte[TAPE_MOST];
    private int tapeSize;
    private int faultPlace = NONE;

    private final Works works = new Works();
    private final Tally scratch = new Tally(false);
    private final Tally gather = new Tally(true);
    private final Reader reader = new Reader(tape, scratch);
    private final Change change = new Change(scratch, gather);
    private final Algebra algebra = new Algebra(works, scratch);
    private final Fields[] bases = new Fields[DEGREES];
    private final Invariants invariants = new Invariants(works, scratch, gather);
    private final Trial trial = new Trial(scratch, gather);

    private final Poly move = new Poly();
    private final Poly guess = new Poly();
    private final Poly[] movesKept = new Poly[IMAGES_MOST];
    private final Poly[] guessesKept = new Poly[IMAGES_MOST];
    private int images;
    private int moveRest = NONE;
    private boolean guessTried;

    public MotionSigns() {
        for (int d = 0; d < DEGREES; d++) {
            bases[d] = new Fields(works, UNKNOWNS_BY_DEGREE[d]);
        }
        for (int i = 0; i < IMAGES_MOST; i++) {
            movesKept[i] = new Poly();
            guessesKept[i] = new Poly();
        }
    }

    public int feed(int a, int b, int c, int d, int e) {
        if (tapeSize + 20 > TAPE_MOST) {
            return NONE;
        }
        push(a);
        push(b);
        push(c);
        push(d);
        push(e);
        return tapeSize;
    }

    public int equation(int n) throws IllegalArgumentException {
        takeTape(n);
        int kind = reader.readEquation(n);
        faultPlace = reader.place;
        if (reader.wrong != 0) {
            return reader.wrong - 10;
        }
        change.begin(kind, reader.made);
        for (int d = 0; d < DEGREES; d++) {
            bases[d].forget();
        }
        invariants.forget();
        move.clear();
        guess.clear();
        images = 0;
        retry();
        return change.right.length();
    }

    public int field(int n) throws IllegalArgumentException, IllegalStateException {
        needEquation();
        takeTape(n);
        reader.readField(n, change.sort);
        faultPlace = reader.place;
        if (reader.wrong != 0) {
            return reader.wrong - 10;
        }
        move.copy(reader.made);
        moveRest = NONE;
        return move.length();
    }

    public int solution(int n) throws IllegalArgumentException, IllegalStateException {
        needEquation();
        takeTape(n);
        reader.readSolution(n, change.sort);
        faultPlace = reader.place;
        if (reader.wrong != 0) {
            return reader.wrong - 10;
        }
        guess.copy(reader.made);
        guessTried = false;
        return guess.length();
    }

    public int fault() {
        return faultPlace;
    }

    public int told(int what) throws IllegalArgumentException {
        needWhat(what, 2);
        if (what == 0) {
            return change.sort;
        }
        return what == 1 ? change.right.length() : change.order();
    }

    public int term(int powers) throws IllegalArgumentException {
        needDigits(powers, 6, 4);
        return (int) change.right.at(keyOf(powers, 6, X));
    }

    public int rest(int what) throws IllegalArgumentException, IllegalStateException {
        needEquation();
        needWhat(what, 1);
        return what == 0 ? restOfMove() : move.length();
    }

    public boolean leaves() throws IllegalStateException {
        needEquation();
        return restOfMove() == 0;
    }

    public int fields(int d) throws IllegalArgumentException, IllegalStateException {
        return baseOf(d).base.rows();
    }

    public long number(int d, int i, int part, int powers)
            throws NoSuchElementException, IllegalArgumentException, IllegalStateException {
        Fields f = baseOf(d);
        needRow(f.base, i);
        needDigits(powers, 3, 3);
        if (part < 0 || part > 2 || (part == T && change.sort == CURVE)) {
            throw new IllegalArgumentException("no such part");
        }
        int j = f.find(keyOf(powers, 3, X) + part * unit(PART));
        return j < 0 ? 0 : f.base.at(i, j).low();
    }

    public boolean within(int d) throws IllegalArgumentException, IllegalStateException {
        return algebra.holds(baseOf(d), move);
    }

    public boolean closed(int d) throws IllegalArgumentException, IllegalStateException {
        return algebra.closes(baseOf(d));
    }

    public long constant(int d, int i, int j, int k, int what)
            throws NoSuchElementException, IllegalArgumentException, IllegalStateException {
        Fields f = baseOf(d);
        needRow(f.base, i);
        needRow(f.base, j);
        needRow(f.base, k);
        needWhat(what, 1);
        if (!algebra.closes(f)) {
            throw new IllegalArgumentException("not closed");
        }
        return algebra.share(f, i, j, k, what);
    }

    public int kind(int d, int what) throws IllegalArgumentException, IllegalStateException {
        Fields f = baseOf(d);
        needWhat(what, 3);
        if (!algebra.closes(f)) {
            throw new IllegalArgumentException("not closed");
        }
        return algebra.sortOf(f, what);
    }

    public int steps(int d, int i, int j)
            throws NoSuchElementException, IllegalArgumentException, IllegalStateException {
        Fields f = baseOf(d);
        needRow(f.base, i);
        needRow(f.base, j);
        return algebra.stepsTo(f, i, j);
    }

    public int bracket(int d, int i, int j)
            throws NoSuchElementException, IllegalArgumentException, IllegalStateException {
        Fields f = baseOf(d);
        needRow(f.base, i);
        needRow(f.base, j);
        return algebra.bracketOf(f, i, j).length();
    }

    public int stretches() throws IllegalStateException {
        needEquation();
        return invariants.stretchesOf(change).rows();
    }

    public int stretch(int i, int what)
            throws NoSuchElementException, IllegalArgumentException, IllegalStateException {
        needEquation();
        Kernel base = invariants.stretchesOf(change);
        needRow(base, i);
        needWhat(what, 2);
        return (int) base.at(i, what).low();
    }

    public int keeps(int i, int j, int what)
            throws NoSuchElementException, IllegalArgumentException, IllegalStateException {
        needEquation();
        needRow(invariants.stretchesOf(change), i);
        needWhat(what, 2);
        Kernel kept = invariants.keptBy(change, i);
        if (j == NONE) {
            return kept.rows();
        }
        return j < 0 || j >= kept.rows() ? 0 : (int) kept.at(j, what).low();
    }

    public int sums(int m) throws IllegalArgumentException, IllegalStateException {
        needDensities(m);
        return invariants.densitiesOf(change, m).rows();
    }

    public long sum(int m, int i, int a, int b)
            throws NoSuchElementException, IllegalArgumentException, IllegalStateException {
        needDensities(m);
        Kernel base = invariants.densitiesOf(change, m);
        needRow(base, i);
        int j = invariants.find(m, a, b);
        return j < 0 ? 0 : base.at(i, j).low();
    }

    public int solves() throws IllegalStateException {
        needEquation();
        return restOfGuess().length();
    }

    public long left(int x, int t) throws IllegalArgumentException, IllegalStateException {
        needEquation();
        if (x < 0 || x > 40 || t < 0 || t > 40 || (t > 0 && change.sort == CURVE)) {
            throw new IllegalArgumentException("no such powers");
        }
        return restOfGuess().at(x * unit(X) + t * unit(T));
    }

    public int shifted(int a, int b) throws IllegalArgumentException, IllegalStateException {
        needEquation();
        if (a < -9 || a > 9 || b < -9 || b > 9 || (b != 0 && change.sort == CURVE)) {
            throw new IllegalArgumentException("no such shift");
        }
        trial.shift(guess, a, b);
        return trial.restOfMoved(change);
    }

    public int stretched(int i, int s)
            throws NoSuchElementException, IllegalArgumentException, IllegalStateException {
        needEquation();
        Kernel base = invariants.stretchesOf(change);
        needRow(base, i);
        if (s < 2 || s > 9) {
            throw new IllegalArgumentException("no such stretch");
        }
        if (!trial.scale(guess, base, i, s)) {
            return NONE;
        }
        return trial.restOfMoved(change);
    }

    public int wave(int v, int powers) throws IllegalArgumentException, IllegalStateException {
        needEquation();
        needDigits(powers, 4, 4);
        if (v < -99 || v > 99 || change.sort == CURVE || change.hasPlaceOrTime()) {
            throw new IllegalArgumentException("no such wave");
        }
        long n = -change.right.at(keyOf(powers, 4, U));
        return (int) (powers == 100 ? n - v : n);
    }

    public int lines(int what) throws IllegalArgumentException, IllegalStateException {
        needEquation();
        needWhat(what, 2);
        if (change.sort != CURVE) {
            throw new IllegalArgumentException("a flow");
        }
        return change.straight(what);
    }

    public int image() {
        if (images < 0 || images >= IMAGES_MOST) {
            return NONE;
        }
        movesKept[images].copy(move);
        guessesKept[images].copy(guess);
        images++;
        return images;
    }

    public int restore() {
        if (images <= 0 || images > IMAGES_MOST) {
            return NONE;
        }
        images--;
        move.copy(movesKept[images]);
        guess.copy(guessesKept[images]);
        retry();
        return images;
    }

    public int count(int what) {
        if (what == 0) {
            return images;
        }
        return what == 1 ? tapeSize : NONE;
    }

    private void push(int word) {
        for (int shift = 24; shift >= 0; shift -= 8) {
            if (tapeSize >= 0 && tapeSize < TAPE_MOST) {
                tape[tapeSize] = (byte) (word >> shift);
                tapeSize++;
            }
        }
    }

    private void takeTape(int n) {
        if (n < 0 || n > tapeSize) {
            throw new IllegalArgumentException("more than the tape has");
        }
        tapeSize = 0;
    }

    private void retry() {
        moveRest = NONE;
        guessTried = false;
    }

    private void needEquation() {
        if (change.sort == 0) {
            throw new IllegalStateException("no equation");
        }
    }

    private static void needWhat(int what, int most) {
        if (what < 0 || what > most) {
            throw new IllegalArgumentException("no such what");
        }
    }

    private static void needDigits(int powers, int places, int most) {
        int left = powers;
        boolean fits = powers >= 0;
        for (int i = 0; i < places; i++) {
            fits = fits && left % 10 <= most;
            left /= 10;
        }
        if (!fits || left != 0) {
            throw new IllegalArgumentException("no such powers");
        }
    }

    private static void needRow(Kernel base, int i) {
        if (i < 0 || i >= base.rows()) {
            throw new NoSuchElementException("no such row");
        }
    }

    private Fields baseOf(int d) {
        needEquation();
        if (d < 0 || d >= DEGREES || d > (change.sort == FLOW ? 2 : 3)) {
            throw new IllegalArgumentException("no such degree");
        }
        Fields f = bases[d];
        if (!f.ready) {
            f.nameAll(change.sort, d);
            change.makeRules();
            gather.clear();
            for (int j = 0; j < f.names; j++) {
                change.spread(f.nameAt(j), 1, j, gather);
            }
            f.base.begin(f.names);
            f.base.takeAll(gather);
            f.ready = true;
        }
        return f;
    }

    private void needDensities(int m) {
        needEquation();
        if (m < 1 || m > 4 || change.sort == CURVE) {
            throw new IllegalArgumentException("no such degree");
        }
    }

    private int restOfMove() {
        if (moveRest == NONE) {
            change.makeRules();
            gather.clear();
            for (int i = 0; i < move.length(); i++) {
                change.spread(move.key[i], move.val[i], 0, gather);
            }
            moveRest = gather.alive();
        }
        return moveRest;
    }

    private Poly restOfGuess() {
        if (!guessTried) {
            trial.tryOut(change, guess, trial.remains);
            guessTried = true;
        }
        return trial.remains;
    }

    private static long unit(int letter) {
        return 1L << (BITS * letter);
    }

    private static int power(long key, int letter) {
        return (int) (key >>> (BITS * letter)) & MASK;
    }

    /** The key of powers told as digits, of which the highest is the first letter's. */
    private static long keyOf(int powers, int places, int first) {
        long key = 0;
        int left = powers;
        for (int i = places - 1; i >= 0; i--) {
            key += (left % 10) * unit(first + i);
            left /= 10;
        }
        return key;
    }

    /** A sum of terms: each a key of powers and a number of 64 bits that wraps. */
    private static final class Poly {
        private static final int MOST = 1 << 17;
        private long[] key = new long[16];
        private long[] val = new long[16];
        private int size;

        int length() {
            return Math.min(size, Math.min(key.length, val.length));
        }

        void clear() {
            size = 0;
        }

        void single(long k, long v) {
            size = 0;
            if (v != 0) {
                append(k, v);
            }
        }

        /** The caller sees to it that no key comes twice. */
        void append(long k, long v) {
            if (size >= key.length || size >= val.length) {
                int more = Math.min(2 * size + 16, MOST);
                key = Arrays.copyOf(key, more);
                val = Arrays.copyOf(val, more);
            }
            if (size >= 0 && size < key.length && size < val.length) {
                key[size] = k;
                val[size] = v;
                size++;
            }
        }

        void copy(Poly o) {
            int n = o.length();
            size = 0;
            for (int i = 0; i < n; i++) {
                append(o.key[i], o.val[i]);
            }
        }

        long at(long k) {
            int n = length();
            for (int i = 0; i < n; i++) {
                if (key[i] == k) {
                    return val[i];
                }
            }
            return 0;
        }

        /** This is the other's change by a letter (the other is not this). */
        void changeOf(Poly o, int letter) {
            int n = o.length();
            size = 0;
            for (int i = 0; i < n; i++) {
                int a = power(o.key[i], letter);
                if (a > 0 && o.val[i] * a != 0) {
                    append(o.key[i] - unit(letter), o.val[i] * a);
                }
            }
        }
    }

    /**
     * Sums numbers by their key and by whose they are. Owners come one after the other, so that those of the latest
     * stand foremost in each chain.
     */
    private static final class Tally {
        private static final int MOST = 1 << 17;
        private static final long MIX = 0x9E3779B97F4A7C15L;
        // A place in a chain is told as the entry's number and 1, so that 0 is none and new rows need no filling.
        private final int[] head;
        private long[] key = new long[64];
        private long[] val = new long[64];
        private int[] who = new int[64];
        private int[] next = new int[64];
        private int size;

        Tally(boolean wide) {
            head = new int[wide ? 1 << 14 : 1 << 12];
        }

        int length() {
            int a = Math.min(key.length, val.length);
            return Math.min(size, Math.min(a, Math.min(who.length, next.length)));
        }

        private int bucket(long k) {
            return (int) ((k * MIX) >>> 40) & (head.length - 1);
        }

        void clear() {
            int n = length();
            for (int e = 0; e < n; e++) {
                int b = bucket(key[e]);
                if (b >= 0 && b < head.length) {
                    head[b] = 0;
                }
            }
            size = 0;
        }

        void add(long k, int w, long v) {
            int b = bucket(k);
            if (b < 0 || b >= head.length) {
                return;
            }
            int n = length();
            int e = head[b] - 1;
            for (int i = 0; i < n && e >= 0 && e < n && who[e] == w; i++) {
                if (key[e] == k) {
                    val[e] += v;
                    return;
                }
                e = next[e] - 1;
            }
            widen();
            if (size < key.length && size < val.length && size < who.length && size < next.length) {
                key[size] = k;
                val[size] = v;
                who[size] = w;
                next[size] = head[b];
                size++;
                head[b] = size;
            }
        }

        private void widen() {
            if (size >= key.length && size < MOST) {
                int more = Math.min(2 * size + 64, MOST);
                key = Arrays.copyOf(key, more);
                val = Arrays.copyOf(val, more);
                who = Arrays.copyOf(who, more);
                next = Arrays.copyOf(next, more);
            }
        }

        void addProduct(Poly a, Poly b, long times, int w) {
            int n = a.length();
            int m = b.length();
            for (int i = 0; i < n; i++) {
                for (int j = 0; j < m; j++) {
                    add(a.key[i] + b.key[j], w, a.val[i] * times * b.val[j]);
                }
            }
        }

        void addMoved(Poly a, long by, long times, int w) {
            int n = a.length();
            for (int i = 0; i < n; i++) {
                add(a.key[i] + by, w, a.val[i] * times);
            }
        }

        int alive() {
            int n = length();
            int found = 0;
            for (int e = 0; e < n; e++) {
                if (val[e] != 0) {
                    found++;
                }
            }
            return found;
        }

        void pourInto(Poly out) {
            int n = length();
            out.clear();
            for (int e = 0; e < n; e++) {
                if (val[e] != 0) {
                    out.append(key[e], val[e]);
                }
            }
        }

        /** The next entry of the same key as e's, at or behind the place p of its chain; NONE without. */
        private int sameKey(int e, int p) {
            int n = length();
            int f = p - 1;
            for (int i = 0; i < n && e >= 0 && e < n && f >= 0 && f < n; i++) {
                if (key[f] == key[e]) {
                    return f;
                }
                f = next[f] - 1;
            }
            return NONE;
        }

        /** Whether e is the foremost of its key, so that each key is met once. */
        boolean leads(int e) {
            if (e < 0 || e >= length()) {
                return false;
            }
            int b = bucket(key[e]);
            return b >= 0 && b < head.length && sameKey(e, head[b]) == e;
        }

        int after(int e) {
            return e < 0 || e >= length() ? NONE : sameKey(e, next[e]);
        }
    }

    /** A whole number without bound; limbs of 31 bits, the lowest first. */
    private static final class Big {
        private static final long LOW = 0x7FFFFFFFL;
        private static final int LIMB = 31;
        private static final int MOST = 1 << 16;
        private int sign;
        private int size;
        private int[] limb = new int[3];

        int length() {
            return Math.min(size, limb.length);
        }

        void room(int n) {
            if (n > limb.length && n <= MOST) {
                limb = Arrays.copyOf(limb, n + 2);
            }
        }

        void trim() {
            int n = Math.min(size, limb.length);
            for (int i = n - 1; i >= 0 && limb[i] == 0; i--) {
                n = i;
            }
            size = n;
            if (n == 0) {
                sign = 0;
            }
        }

        void put(long v) {
            long m = v < 0 ? -v : v;
            size = 0;
            // Shifts without a sign read the least long's own opposite rightly, too.
            for (int i = 0; i < 3 && i < limb.length; i++) {
                limb[i] = (int) (m >>> (LIMB * i) & LOW);
                if (limb[i] != 0) {
                    size = i + 1;
                }
            }
            sign = v < 0 ? -1 : v > 0 ? 1 : 0;
        }

        void copy(Big o) {
            int n = Math.min(o.size, o.limb.length);
            if (n > limb.length && n <= MOST) {
                limb = new int[n + 2];
            }
            size = Math.min(n, limb.length);
            for (int i = 0; i < size; i++) {
                limb[i] = o.limb[i];
            }
            sign = o.sign;
        }

        boolean isOne() {
            return sign == 1 && size == 1 && limb.length > 0 && limb[0] == 1;
        }

        boolean isSmall() {
            return size <= 2;
        }

        long low() {
            long v = 0;
            for (int i = Math.min(size, Math.min(limb.length, 3)) - 1; i >= 0; i--) {
                v = (v << LIMB) + limb[i];
            }
            return sign < 0 ? -v : v;
        }

        /** Compares the sizes without the signs. */
        int against(Big o) {
            int n = Math.min(size, limb.length);
            int m = Math.min(o.size, o.limb.length);
            if (n != m) {
                return n < m ? -1 : 1;
            }
            for (int i = n - 1; i >= 0 && i < o.limb.length; i--) {
                if (limb[i] != o.limb[i]) {
                    return limb[i] < o.limb[i] ? -1 : 1;
                }
            }
            return 0;
        }

        /** Adds the other (not this itself) with the sign way, 1 or -1. */
        void add(Big o, int way) {
            int s = o.sign * way;
            if (s == 0) {
                return;
            }
            if (sign == 0) {
                copy(o);
                sign = s;
            } else if (sign == s) {
                addSize(o);
            } else if (against(o) >= 0) {
                takeSize(o, this);
            } else {
                takeSize(this, o);
                sign = size == 0 ? 0 : s;
            }
        }

        private void addSize(Big o) {
            int n = Math.max(length(), o.length()) + 1;
            room(n);
            n = Math.min(n, limb.length);
            long carry = 0;
            for (int i = 0; i < n; i++) {
                long a = i < size ? limb[i] : 0;
                long b = i < o.length() ? o.limb[i] : 0;
                carry += a + b;
                limb[i] = (int) (carry & LOW);
                carry >>>= LIMB;
            }
            size = n;
            trim();
        }

        /** This becomes the greater less the smaller, without the signs; one of them is this. */
        private void takeSize(Big smaller, Big greater) {
            int n = greater.length();
            room(n);
            n = Math.min(n, limb.length);
            long borrow = 0;
            for (int i = 0; i < n && i < greater.limb.length; i++) {
                long b = i < smaller.length() ? smaller.limb[i] : 0;
                long d = greater.limb[i] - b - borrow;
                limb[i] = (int) (d & LOW);
                borrow = d < 0 ? 1 : 0;
            }
            size = n;
            trim();
        }

        /** This becomes the product of two others. */
        void times(Big a, Big b) {
            int n = a.length();
            int m = b.length();
            room(n + m);
            for (int i = 0; i < n + m && i < limb.length; i++) {
                limb[i] = 0;
            }
            for (int i = 0; i < n; i++) {
                long x = a.limb[i];
                long carry = 0;
                for (int j = 0; j < m && i + j < limb.length; j++) {
                    carry += x * b.limb[j] + limb[i + j];
                    limb[i + j] = (int) (carry & LOW);
                    carry >>>= LIMB;
                }
                if (i + m < limb.length) {
                    limb[i + m] = (int) carry;
                }
            }
            sign = a.sign * b.sign;
            size = sign == 0 ? 0 : Math.min(n + m, limb.length);
            trim();
        }
    }

    /** Division and the greatest common divisor, with rows of their own to work in. */
    private static final class Works {
        private static final int TURNS_MOST = 1_000_000;
        private final Big upper = new Big();
        private final Big lower = new Big();
        private final Big quotient = new Big();
        private final Big remainder = new Big();
        private int[] top = new int[8];
        private int[] foot = new int[8];

        private static long smallGcd(long a, long b) {
            long x = a < 0 ? -a : a;
            long y = b < 0 ? -b : b;
            for (int i = 0; i < TURNS_MOST && y != 0; i++) {
                long z = x % y;
                x = y;
                y = z;
            }
            return x;
        }

        void gcd(Big a, Big b, Big out) {
            if (a.isSmall() && b.isSmall()) {
                out.put(smallGcd(a.low(), b.low()));
                return;
            }
            upper.copy(a);
            lower.copy(b);
            for (int i = 0; i < TURNS_MOST && lower.sign != 0; i++) {
                divide(upper, lower, quotient, remainder);
                upper.copy(lower);
                lower.copy(remainder);
            }
            out.copy(upper);
            out.sign = out.size == 0 ? 0 : 1;
        }

        /** The quotient without its fraction and what remains, into two other numbers. */
        void divide(Big n, Big d, Big quot, Big rem) {
            if (d.sign == 0 || n.against(d) < 0) {
                quot.put(0);
                rem.copy(n);
                return;
            }
            if (n.isSmall()) {
                long by = d.low();
                quot.put(by == 0 ? 0 : n.low() / by);
                rem.put(by == 0 ? 0 : n.low() % by);
                return;
            }
            int m = d.length();
            int last = n.length() - m;
            quot.room(last + 1);
            rem.room(m);
            quot.size = Math.min(last + 1, quot.limb.length);
            rem.size = Math.min(m, rem.limb.length);
            widen(n.length() + 1);
            int by = headroom(d);
            shiftUp(n, top, by);
            shiftUp(d, foot, by);
            for (int j = last; j >= 0; j--) {
                long digit = guessDigit(j, m);
                digit = takeDigit(j, m, digit);
                if (j < quot.size) {
                    quot.limb[j] = (int) digit;
                }
            }
            for (int i = 0; i < rem.size && i + 1 < top.length; i++) {
                long pair = top[i] + ((i + 1 < m ? (long) top[i + 1] : 0L) << Big.LIMB);
                rem.limb[i] = (int) (pair >>> by & Big.LOW);
            }
            quot.sign = n.sign * d.sign;
            rem.sign = n.sign;
            quot.trim();
            rem.trim();
        }

        private void widen(int n) {
            if ((n > top.length || n > foot.length) && n <= Big.MOST) {
                top = new int[n + 4];
                foot = new int[n + 4];
            }
        }

        /** How far a divisor can be shifted up within its highest limb. */
        private static int headroom(Big d) {
            int i = d.size - 1;
            int by = 0;
            while (i >= 0 && i < d.limb.length && by < 30 && ((long) d.limb[i] << by) < (1L << 30)) {
                by++;
            }
            return by;
        }

        private static void shiftUp(Big from, int[] to, int by) {
            long carry = 0;
            int n = Math.min(from.size, from.limb.length);
            for (int i = 0; i <= n && i < to.length; i++) {
                carry += (i < n ? (long) from.limb[i] : 0L) << by;
                to[i] = (int) (carry & Big.LOW);
                carry >>>= Big.LIMB;
            }
        }

        /** A digit of the quotient, at most one too great. */
        private long guessDigit(int j, int m) {
            if (j < 0 || m < 1 || m > foot.length || j + m >= top.length || foot[m - 1] <= 0) {
                return 0;
            }
            long pair = ((long) top[j + m] << Big.LIMB) + top[j + m - 1];
            long q = pair / foot[m - 1];
            long r = pair % foot[m - 1];
            for (int i = 0; i < 3 && m > 1 && r <= Big.LOW; i++) {
                if (q <= Big.LOW && q * foot[m - 2] <= (r << Big.LIMB) + top[j + m - 2]) {
                    break;
                }
                q--;
                r += foot[m - 1];
            }
            return q;
        }

        private long takeDigit(int j, int m, long q) {
            if (j < 0 || j + m >= top.length || m > foot.length) {
                return 0;
            }
            long carry = 0;
            long borrow = 0;
            for (int i = 0; i < m; i++) {
                carry += q * foot[i];
                long d = top[i + j] - borrow - (carry & Big.LOW);
                carry >>>= Big.LIMB;
                top[i + j] = (int) (d & Big.LOW);
                borrow = d < 0 ? 1 : 0;
            }
            long d = top[j + m] - borrow - carry;
            top[j + m] = (int) (d & Big.LOW);
            if (d >= 0) {
                return q;
            }
            carry = 0;
            for (int i = 0; i < m; i++) {
                carry += (long) top[i + j] + foot[i];
                top[i + j] = (int) (carry & Big.LOW);
                carry >>>= Big.LIMB;
            }
            top[j + m] = (int) (top[j + m] + carry & Big.LOW);
            return q - 1;
        }
    }

    /**
     * The base, in the reduced form, of all rows of unknowns that some equations leave. Each equation takes the last
     * row out that does not fit it and mends those above with it, which keeps the form at every step.
     */
    private static final class Kernel {
        private final Works works;
        private final int most;
        private final Big[] cell;
        private final int[] block;
        private final int[] lead;
        private final Big[] given;
        private final int[] used;
        private final Big[] dot;
        private final Big nought = new Big();
        private final Big mine = new Big();
        private final Big theirs = new Big();
        private final Big common = new Big();
        private final Big rest = new Big();
        private final Big one = new Big();
        private final Big two = new Big();
        private int uses;
        private int width;
        private int rows;

        Kernel(Works works, int wanted) {
            this.works = works;
            most = Math.max(1, Math.min(wanted, UNKNOWNS_MOST));
            cell = new Big[most * most];
            block = new int[most];
            lead = new int[most];
            given = new Big[most];
            used = new int[most];
            dot = new Big[most];
            for (int i = 0; i < most * most; i++) {
                cell[i] = new Big();
            }
            for (int i = 0; i < most; i++) {
                given[i] = new Big();
                dot[i] = new Big();
            }
        }

        int rows() {
            return rows;
        }

        int width() {
            return width;
        }

        int leadOf(int i) {
            return i >= 0 && i < rows && i < most ? lead[i] : 0;
        }

        Big at(int i, int j) {
            if (i < 0 || i >= most || j < 0 || j >= most) {
                return nought;
            }
            int place = block[i] * most + j;
            return place < 0 || place >= cell.length ? nought : cell[place];
        }

        /** All rows of n unknowns: no equation has been taken yet. */
        void begin(int n) {
            width = Math.max(0, Math.min(n, most));
            rows = width;
            uses = 0;
            for (int i = 0; i < width; i++) {
                block[i] = i;
                lead[i] = i;
                given[i].put(0);
                for (int j = 0; j < width; j++) {
                    at(i, j).put(i == j ? 1 : 0);
                }
            }
        }

        /** A number, not given before, of the equation that is taken next. */
        void give(int j, long v) {
            if (v != 0 && j >= 0 && j < width && uses < most) {
                given[j].put(v);
                used[uses] = j;
                uses++;
            }
        }

        void giveBig(int j, Big v) {
            if (v.sign != 0 && j >= 0 && j < width && uses < most) {
                given[j].copy(v);
                used[uses] = j;
                uses++;
            }
        }

        void take() {
            int last = NONE;
            for (int i = 0; i < rows && i < most; i++) {
                dot[i].put(0);
                for (int k = 0; k < uses && k < most; k++) {
                    int j = used[k];
                    if (j >= 0 && j < most && at(i, j).sign != 0) {
                        one.times(given[j], at(i, j));
                        dot[i].add(one, 1);
                    }
                }
                if (dot[i].sign != 0) {
                    last = i;
                }
            }
            for (int i = 0; i < last; i++) {
                if (dot[i].sign != 0) {
                    mend(i, last);
                    lessen(i);
                }
            }
            if (last >= 0) {
                drop(last);
            }
            uses = 0;
        }

        private void mend(int i, int last) {
            if (i < 0 || i >= most || last < 0 || last >= most) {
                return;
            }
            works.gcd(dot[i], dot[last], common);
            works.divide(dot[last], common, mine, rest);
            works.divide(dot[i], common, theirs, rest);
            if (mine.sign < 0) {
                mine.sign = 1;
                theirs.sign = -theirs.sign;
            }
            for (int j = 0; j < width; j++) {
                Big mineAt = at(i, j);
                if (mineAt.sign != 0 || at(last, j).sign != 0) {
                    one.times(mine, mineAt);
                    two.times(theirs, at(last, j));
                    one.add(two, -1);
                    mineAt.copy(one);
                }
            }
        }

        /** Divides a row by the greatest number that divides all of it. */
        private void lessen(int i) {
            common.put(0);
            for (int j = 0; j < width && !common.isOne(); j++) {
                if (at(i, j).sign != 0) {
                    works.gcd(common, at(i, j), common);
                }
            }
            if (common.isOne() || common.sign == 0) {
                return;
            }
            for (int j = 0; j < width; j++) {
                if (at(i, j).sign != 0) {
                    works.divide(at(i, j), common, one, rest);
                    at(i, j).copy(one);
                }
            }
        }

        private void drop(int last) {
            if (last < 0 || last >= rows || rows > most) {
                return;
            }
            int freed = block[last];
            for (int i = last; i + 1 < rows; i++) {
                block[i] = block[i + 1];
                lead[i] = lead[i + 1];
            }
            rows--;
            block[rows] = freed;
        }

        /** Takes each key of a tally as an equation; short ones first, since they keep the numbers small. */
        void takeAll(Tally t) {
            int n = t.length();
            for (int few = 1; few <= 3 && rows > 0; few++) {
                for (int e = 0; e < n && rows > 0; e++) {
                    if (t.leads(e)) {
                        int found = 0;
                        for (int f = e, i = 0; f != NONE && f < n && i < n; i++) {
                            give(t.who[f], t.val[f]);
                            found += t.val[f] != 0 ? 1 : 0;
                            f = t.after(f);
                        }
                        if (Math.min(found, 3) == few) {
                            take();
                        }
                        uses = 0;
                    }
                }
            }
        }
    }

    /** Reads the texts; what it makes of one, and its fault, stand in its fields. */
    private static final class Reader {
        private static final int OPEN_MOST = 6;
        private static final int SUM = 0;
        private static final int PRODUCT = 1;
        private static final int UNIT = 2;
        private static final int BASE = 3;
        private static final int ROWS = 4;
        private static final String LETTERS = "xtupqr";
        private static final int OF_FLOW = 63;
        private static final int OF_CURVE = 13;
        private final byte[] text;
        private final Tally scratch;
        private final Poly[] pool = new Poly[ROWS * (OPEN_MOST + 1)];
        private final Poly made = new Poly();
        private int length;
        private int at;
        private int letters;
        private boolean over;
        private int wrong;
        private int place = NONE;

        Reader(byte[] text, Tally scratch) {
            this.text = text;
            this.scratch = scratch;
            for (int i = 0; i < pool.length; i++) {
                pool[i] = new Poly();
            }
        }

        int readEquation(int n) {
            start(n);
            int kind = eatWord("flow") ? FLOW : eatWord("curve") ? CURVE : 0;
            if (kind == 0) {
                fail(1);
            }
            readPolynomial(kind == FLOW ? OF_FLOW : OF_CURVE);
            made.copy(row(0, SUM));
            needEnd();
            return kind;
        }

        void readSolution(int n, int sort) {
            start(n);
            if (!eatWord("u")) {
                fail(1);
            }
            need('=');
            readPolynomial(sort == CURVE ? 1 : 3);
            made.copy(row(0, SUM));
            needEnd();
        }

        void readField(int n, int sort) {
            int allowed = sort == CURVE ? 5 : 7;
            int seen = 0;
            start(n);
            for (int i = 0; i < 4 && wrong == 0 && look() != NONE; i++) {
                int part = letterHere(allowed);
                if (part == NONE) {
                    fail(1);
                } else if ((seen >> part & 1) == 1) {
                    fail(3);
                } else {
                    seen |= 1 << part;
                    at++;
                    need('=');
                    readPolynomial(allowed);
                    addPart(part);
                }
            }
        }

        private void addPart(int part) {
            Poly sum = row(0, SUM);
            for (int i = 0; i < sum.length(); i++) {
                made.append(sum.key[i] + part * unit(PART), sum.val[i]);
            }
        }

        private void start(int n) {
            length = Math.min(n, text.length);
            at = 0;
            wrong = 0;
            place = NONE;
            made.clear();
        }

        private void fail(int fault) {
            if (wrong == 0) {
                wrong = fault;
                place = at;
            }
        }

        /** The next byte behind blanks; NONE at the end. */
        private int look() {
            while (at >= 0 && at < length && at < text.length && text[at] == ' ') {
                at++;
            }
            return at >= 0 && at < length && at < text.length ? text[at] & 255 : NONE;
        }

        private boolean eat(char c) {
            if (wrong != 0 || look() != c) {
                return false;
            }
            at++;
            return true;
        }

        private void need(char c) {
            if (!eat(c)) {
                fail(1);
            }
        }

        private void needEnd() {
            if (wrong == 0 && look() != NONE) {
                fail(1);
            }
        }

        private static boolean isSmallLetter(int c) {
            return c >= 'a' && c <= 'z';
        }

        private static boolean isDigit(int c) {
            return c >= '0' && c <= '9';
        }

        private int wordLength() {
            look();
            int n = 0;
            while (at >= 0 && at + n < length && at + n < text.length && isSmallLetter(text[at + n])) {
                n++;
            }
            return n;
        }

        private boolean eatWord(String word) {
            int n = wordLength();
            if (n != word.length()) {
                return false;
            }
            for (int i = 0; i < n && at + i < text.length; i++) {
                if (text[at + i] != word.charAt(i)) {
                    return false;
                }
            }
            at += n;
            return true;
        }

        /** The letter that stands here, if it is one of the allowed ones; it stays to be eaten. */
        private int letterHere(int allowed) {
            if (wordLength() != 1 || at < 0 || at >= text.length) {
                return NONE;
            }
            int letter = LETTERS.indexOf((char) text[at]);
            return letter >= 0 && (allowed >> letter & 1) == 1 ? letter : NONE;
        }

        private int readNumber(int most) {
            if (wrong != 0 || !isDigit(look())) {
                fail(1);
                return 0;
            }
            int n = 0;
            int end = at;
            while (end >= 0 && end < length && end < text.length && isDigit(text[end])) {
                n = Math.min(10 * n + text[end] - '0', 100_000);
                end++;
            }
            if (n > most) {
                fail(2);
                return 0;
            }
            at = end;
            return n;
        }

        private Poly row(int level, int which) {
            int i = level * ROWS + which;
            return pool[i >= 0 && i < pool.length ? i : 0];
        }

        private void readPolynomial(int allowed) {
            letters = allowed;
            over = false;
            readSum(0);
            if (wrong != 0) {
                return;
            }
            if (look() != ';') {
                fail(1);
            } else if (over || !fits(row(0, SUM), 12, 4)) {
                fail(4);
            } else {
                at++;
            }
        }

        private static boolean fits(Poly p, int terms, int most) {
            boolean good = p.length() <= terms;
            for (int i = 0; i < p.length() && good; i++) {
                good = p.val[i] <= 1_000_000 && p.val[i] >= -1_000_000;
                for (int letter = X; letter <= R; letter++) {
                    good = good && power(p.key[i], letter) <= most;
                }
            }
            return good;
        }

        private void settle(Poly p) {
            scratch.pourInto(p);
            if (!fits(p, 60, 20)) {
                over = true;
            }
        }

        private void join(Poly sum, Poly product, int way) {
            if (!over) {
                scratch.clear();
                scratch.addMoved(sum, 0, 1, 0);
                scratch.addMoved(product, 0, way, 0);
                settle(sum);
            }
        }

        private void multiply(Poly product, Poly by) {
            if (!over) {
                scratch.clear();
                scratch.addProduct(product, by, 1, 0);
                settle(product);
            }
        }

        private void readSum(int level) {
            Poly sum = row(level, SUM);
            int way = eat('-') ? -1 : 1;
            sum.clear();
            for (int i = 0; i <= TAPE_MOST && way != 0 && wrong == 0; i++) {
                readProduct(level);
                join(sum, row(level, PRODUCT), way);
                way = eat('+') ? 1 : eat('-') ? -1 : 0;
            }
        }

        private void readProduct(int level) {
            Poly product = row(level, PRODUCT);
            readUnit(level);
            product.copy(row(level, UNIT));
            for (int i = 0; i <= TAPE_MOST && eat('*'); i++) {
                readUnit(level);
                multiply(product, row(level, UNIT));
            }
        }

        private void readUnit(int level) {
            readBase(level);
            if (!eat('^')) {
                return;
            }
            Poly unit = row(level, UNIT);
            Poly base = row(level, BASE);
            int n = readNumber(4);
            base.copy(unit);
            if (n == 0) {
                unit.single(0, 1);
            }
            for (int i = 1; i < n; i++) {
                multiply(unit, base);
            }
        }

        private void readBase(int level) {
            Poly unit = row(level, UNIT);
            int c = wrong == 0 ? look() : NONE;
            int letter = wrong == 0 ? letterHere(letters) : NONE;
            if (isDigit(c)) {
                unit.single(0, readNumber(999));
            } else if (letter != NONE) {
                at++;
                unit.single(unit(letter), 1);
            } else if (c == '(' && level >= OPEN_MOST) {
                fail(3);
            } else if (c == '(') {
                at++;
                readSum(level + 1);
                need(')');
                unit.copy(row(level + 1, SUM));
            } else {
                fail(1);
            }
        }
    }

    /** The equation told, and what a field must fulfil to leave it. */
    private static final class Change {
        // For each part of a field: what goes with the part itself, its change by t and by u (from the slope along
        // t), and its first three slopes along x.
        private static final int RULES = 6;
        private final Tally scratch;
        private final Tally gather;
        private final Poly right = new Poly();
        private final Poly[] rule = new Poly[3 * RULES];
        private final Poly[] slope = new Poly[3];
        private final Poly[] cubic = new Poly[4];
        private final Poly one = new Poly();
        private final Poly two = new Poly();
        private int sort;
        private boolean ruled;
        private boolean lined;
        private boolean steep;
        private final int[] testTerms = new int[2];

        Change(Tally scratch, Tally gather) {
            this.scratch = scratch;
            this.gather = gather;
            for (int i = 0; i < rule.length; i++) {
                rule[i] = new Poly();
            }
            for (int i = 0; i < slope.length; i++) {
                slope[i] = new Poly();
            }
            for (int i = 0; i < cubic.length; i++) {
                cubic[i] = new Poly();
            }
        }

        void begin(int kind, Poly f) {
            sort = kind;
            right.copy(f);
            ruled = false;
            lined = false;
        }

        private boolean has(int letter) {
            boolean found = false;
            for (int i = 0; i < right.length(); i++) {
                found = found || power(right.key[i], letter) > 0;
            }
            return found;
        }

        int order() {
            return has(R) ? 3 : has(Q) ? 2 : has(P) ? 1 : 0;
        }

        boolean hasPlaceOrTime() {
            return has(X) || has(T);
        }

        /** The slope along x; it may take the place of what it is the slope of. */
        void slopeAlong(Poly in, Poly out) {
            scratch.clear();
            for (int i = 0; i < in.length(); i++) {
                long k = in.key[i];
                long v = in.val[i];
                int a = power(k, X);
                if (a > 0) {
                    scratch.add(k - unit(X), 0, v * a);
                }
                for (int letter = U; letter < LAST; letter++) {
                    int b = power(k, letter);
                    if (b > 0 && sort == CURVE && letter == P) {
                        scratch.addMoved(right, k - unit(P), v * b, 0);
                    } else if (b > 0) {
                        scratch.add(k - unit(letter) + unit(letter + 1), 0, v * b);
                    }
                }
            }
            scratch.pourInto(out);
        }

        /** Adds the rest that one term of a field brings. */
        void spread(long term, long v, int who, Tally into) {
            int part = power(term, PART);
            one.single(term - part * unit(PART), v);
            into.addProduct(ruleOf(part, 0), one, 1, who);
            two.changeOf(one, T);
            into.addProduct(ruleOf(part, 1), two, 1, who);
            two.changeOf(one, U);
            into.addProduct(ruleOf(part, 2), two, 1, who);
            for (int j = 1; j <= 3; j++) {
                slopeAlong(one, one);
                into.addProduct(ruleOf(part, 2 + j), one, 1, who);
            }
        }

        private Poly ruleOf(int part, int which) {
            int i = part * RULES + which;
            return rule[i >= 0 && i < rule.length ? i : 0];
        }

        private void setRule(Poly to, Poly from, long by, long times) {
            to.clear();
            for (int i = 0; i < from.length(); i++) {
                to.append(from.key[i] + by, from.val[i] * times);
            }
        }

        /** Makes the rules that spread goes by, once for an equation. */
        void makeRules() {
            if (ruled) {
                return;
            }
            for (int i = 0; i < rule.length; i++) {
                rule[i].clear();
            }
            one.changeOf(right, U);
            setRule(ruleOf(U, 0), one, 0, -1);
            one.changeOf(right, X);
            setRule(ruleOf(X, 0), one, 0, -1);
            if (sort == CURVE) {
                ruleCurve();
            } else {
                ruleFlow();
            }
            ruled = true;
        }

        private void ruleCurve() {
            one.changeOf(right, P);
            setRule(ruleOf(U, 3), one, 0, -1);
            ruleOf(U, 4).single(0, 1);
            scratch.clear();
            scratch.addMoved(one, unit(P), 1, 0);
            scratch.addMoved(right, 0, -2, 0);
            scratch.pourInto(ruleOf(X, 3));
            ruleOf(X, 4).single(unit(P), -1);
        }

        // What F changes by its slopes cancels between the slope of Q along t and the slopes along x wherever a
        // slope falls wholly on F; only what falls on the field's parts is kept here.
        private void ruleFlow() {
            slope[0].copy(right);
            slopeAlong(slope[0], slope[1]);
            slopeAlong(slope[1], slope[2]);
            ruleOf(U, 1).single(0, 1);
            setRule(ruleOf(U, 2), right, 0, 1);
            ruleOf(X, 1).single(unit(P), -1);
            setRule(ruleOf(X, 2), right, unit(P), -1);
            one.changeOf(right, T);
            setRule(ruleOf(T, 0), one, 0, -1);
            setRule(ruleOf(T, 1), right, 0, -1);
            scratch.clear();
            scratch.addProduct(right, right, -1, 0);
            scratch.pourInto(ruleOf(T, 2));
            for (int j = 1; j <= 3; j++) {
                one.changeOf(right, U + j);
                setRule(ruleOf(U, 2 + j), one, 0, -1);
                ruleSlopes(j);
            }
        }

        private void ruleSlopes(int j) {
            scratch.clear();
            for (int k = j; k <= 3; k++) {
                one.changeOf(right, U + k);
                scratch.addMoved(one, unit(U + k - j + 1), choose(k, j), 0);
            }
            scratch.pourInto(ruleOf(X, 2 + j));
            scratch.clear();
            for (int k = j; k <= 3 && k - j < slope.length; k++) {
                one.changeOf(right, U + k);
                scratch.addProduct(one, slope[k - j], choose(k, j), 0);
            }
            scratch.pourInto(ruleOf(T, 2 + j));
        }

        /** The test of lines: whether it passes, or how many terms one of its two tests has. */
        int straight(int what) {
            if (!lined) {
                part();
                testTerms[0] = steep ? NONE : firstTest();
                testTerms[1] = steep ? NONE : secondTest();
                lined = true;
            }
            if (what == 0) {
                return testTerms[0] == 0 && testTerms[1] == 0 ? 1 : 0;
            }
            return testTerms[what == 1 ? 0 : 1];
        }

        private void part() {
            steep = false;
            for (int i = 0; i < cubic.length; i++) {
                cubic[i].clear();
            }
            for (int i = 0; i < right.length(); i++) {
                int b = power(right.key[i], P);
                if (b < cubic.length) {
                    cubic[b].append(right.key[i] - b * unit(P), -right.val[i]);
                } else {
                    steep = true;
                }
            }
        }

        private int firstTest() {
            gather.clear();
            addTwice(cubic[3], X, X, 3);
            addTwice(cubic[2], X, U, -2);
            addTwice(cubic[1], U, U, 1);
            addProductChange(cubic[1], cubic[3], X, -3);
            addProductChange(cubic[2], cubic[2], X, 1);
            addProductChange(cubic[0], cubic[3], U, 3);
            addTimesChange(cubic[3], cubic[0], U, 3);
            addTimesChange(cubic[2], cubic[1], U, -1);
            return gather.alive();
        }

        private int secondTest() {
            gather.clear();
            addTwice(cubic[0], U, U, 3);
            addTwice(cubic[1], X, U, -2);
            addTwice(cubic[2], X, X, 1);
            addProductChange(cubic[0], cubic[3], X, -3);
            addProductChange(cubic[1], cubic[1], U, -1);
            addProductChange(cubic[0], cubic[2], U, 3);
            addTimesChange(cubic[0], cubic[3], X, -3);
            addTimesChange(cubic[1], cubic[2], X, 1);
            return gather.alive();
        }

        private void addTwice(Poly f, int letter, int then, long times) {
            one.changeOf(f, letter);
            two.changeOf(one, then);
            gather.addMoved(two, 0, times, 0);
        }

        private void addProductChange(Poly f, Poly g, int letter, long times) {
            scratch.clear();
            scratch.addProduct(f, g, 1, 0);
            scratch.pourInto(one);
            two.changeOf(one, letter);
            gather.addMoved(two, 0, times, 0);
        }

        private void addTimesChange(Poly f, Poly g, int letter, long times) {
            one.changeOf(g, letter);
            gather.addProduct(f, one, times, 0);
        }
    }

    /** The fields of one degree that leave the equation, and what has been found out about them. */
    private static final class Fields {
        private final Kernel base;
        private final long[] name = new long[UNKNOWNS_MOST];
        private final int[] kinds = new int[4];
        private int names;
        private boolean ready;
        private boolean sorted;
        private int closed = NONE;

        Fields(Works works, int unknowns) {
            base = new Kernel(works, unknowns);
        }

        void forget() {
            ready = false;
            sorted = false;
            closed = NONE;
        }

        /** The unknowns' keys in the document's order. */
        void nameAll(int sort, int d) {
            names = 0;
            for (int part = X; part <= U; part++) {
                if (part != T || sort == FLOW) {
                    for (int g = 0; g <= d; g++) {
                        nameOfDegree(sort, part, g);
                    }
                }
            }
        }

        private void nameOfDegree(int sort, int part, int g) {
            for (int i = g; i >= 0; i--) {
                for (int j = sort == FLOW ? g - i : 0; j >= 0; j--) {
                    if (names >= 0 && names < name.length) {
                        name[names] = part * unit(PART) + i * unit(X) + j * unit(T) + (g - i - j) * unit(U);
                        names++;
                    }
                }
            }
        }

        long nameAt(int j) {
            return j >= 0 && j < name.length ? name[j] : 0;
        }

        int find(long key) {
            for (int j = 0; j < names && j < name.length; j++) {
                if (name[j] == key) {
                    return j;
                }
            }
            return NONE;
        }

        void load(int i, Poly out) {
            out.clear();
            for (int j = 0; j < names; j++) {
                long v = base.at(i, j).low();
                if (v != 0) {
                    out.append(nameAt(j), v);
                }
            }
        }

        int kindAt(int what) {
            return what >= 0 && what < kinds.length ? kinds[what] : 0;
        }

        void setKind(int what, int v) {
            if (what >= 0 && what < kinds.length) {
                kinds[what] = v;
            }
        }
    }

    /** Brackets of fields, and what kind of algebra they make. */
    private static final class Algebra {
        private static final int STEPS_MOST = 8;
        private final Works works;
        private final Tally scratch;
        private final Kernel rank;
        private final Kernel span;
        private final Poly one = new Poly();
        private final Poly two = new Poly();
        private final Poly made = new Poly();
        private final long[] line = new long[UNKNOWNS_MOST];
        // The brackets' numbers where the base's rows begin: they say how many times each row is in them.
        private final long[] table = new long[UNKNOWNS_MOST * UNKNOWNS_MOST * UNKNOWNS_MOST];
        private final Big[] times = new Big[UNKNOWNS_MOST];
        private final Big[] row = new Big[UNKNOWNS_MOST];
        private final Big common = new Big();
        private final Big total = new Big();
        private final Big first = new Big();
        private final Big second = new Big();
        private final Big spare = new Big();

        Algebra(Works works, Tally scratch) {
            this.works = works;
            this.scratch = scratch;
            rank = new Kernel(works, UNKNOWNS_MOST);
            span = new Kernel(works, UNKNOWNS_MOST);
            for (int i = 0; i < UNKNOWNS_MOST; i++) {
                times[i] = new Big();
                row[i] = new Big();
            }
        }

        Poly bracketOf(Fields f, int i, int j) {
            f.load(i, one);
            f.load(j, two);
            bracketInto(one, two, made);
            return made;
        }

        private void bracketInto(Poly v, Poly w, Poly out) {
            scratch.clear();
            addMoves(v, w, 1);
            addMoves(w, v, -1);
            scratch.pourInto(out);
        }

        /** Adds what the field v moves the parts of w by. */
        private void addMoves(Poly v, Poly w, long way) {
            for (int i = 0; i < v.length(); i++) {
                int letter = power(v.key[i], PART);
                long k = v.key[i] - letter * unit(PART) - unit(letter);
                for (int j = 0; j < w.length(); j++) {
                    int a = power(w.key[j], letter);
                    if (a > 0) {
                        scratch.add(k + w.key[j], 0, way * a * v.val[i] * w.val[j]);
                    }
                }
            }
        }

        int stepsTo(Fields f, int i, int j) {
            f.load(i, one);
            f.load(j, made);
            for (int n = 1; n <= STEPS_MOST; n++) {
                bracketInto(one, made, made);
                if (made.length() == 0) {
                    return n;
                }
            }
            return NONE;
        }

        private long lineAt(int j) {
            return j >= 0 && j < line.length ? line[j] : 0;
        }

        /** Lays a field out by unknowns; false, if it has terms that are none of them. */
        private boolean layOut(Fields f, Poly field) {
            Arrays.fill(line, 0);
            for (int i = 0; i < field.length(); i++) {
                int j = f.find(field.key[i]);
                if (j < 0 || j >= line.length) {
                    return false;
                }
                line[j] = field.val[i];
            }
            return true;
        }

        /** The least number that all rows' first numbers divide, by each of these; rows that are not in it: 0. */
        private void divideShares(Kernel base, boolean all) {
            common.put(1);
            for (int k = 0; k < base.rows(); k++) {
                Big start = base.at(k, base.leadOf(k));
                if (all || lineAt(base.leadOf(k)) != 0) {
                    works.gcd(common, start, first);
                    works.divide(start, first, second, spare);
                    first.times(common, second);
                    common.copy(first);
                }
            }
            for (int k = 0; k < base.rows() && k < times.length; k++) {
                if (all || lineAt(base.leadOf(k)) != 0) {
                    works.divide(common, base.at(k, base.leadOf(k)), times[k], spare);
                } else {
                    times[k].put(0);
                }
            }
        }

        /** Whether a field is a sum of the base; the rows' beginnings leave but one way to be it. */
        boolean holds(Fields f, Poly field) {
            if (!layOut(f, field)) {
                return false;
            }
            Kernel base = f.base;
            divideShares(base, false);
            for (int k = 0; k < base.rows() && k < times.length; k++) {
                first.put(lineAt(base.leadOf(k)));
                second.times(first, times[k]);
                times[k].copy(second);
            }
            for (int j = 0; j < base.width(); j++) {
                first.put(lineAt(j));
                total.times(first, common);
                for (int k = 0; k < base.rows() && k < times.length; k++) {
                    if (times[k].sign != 0 && base.at(k, j).sign != 0) {
                        first.times(times[k], base.at(k, j));
                        total.add(first, -1);
                    }
                }
                if (total.sign != 0) {
                    return false;
                }
            }
            return true;
        }

        boolean closes(Fields f) {
            if (f.closed == NONE) {
                f.closed = allHeld(f) ? 1 : 0;
            }
            return f.closed == 1;
        }

        // Both ways round: where a number wraps to the least long, so does its opposite, and only one may be right.
        private boolean allHeld(Fields f) {
            int n = f.base.rows();
            for (int i = 0; i < n; i++) {
                for (int j = 0; j < n; j++) {
                    if (!holds(f, bracketOf(f, i, j))) {
                        return false;
                    }
                }
            }
            return true;
        }

        long share(Fields f, int i, int j, int k, int what) {
            layOut(f, bracketOf(f, i, j));
            int lead = f.base.leadOf(k);
            Big start = f.base.at(k, lead);
            first.put(lineAt(lead));
            works.gcd(first, start, second);
            works.divide(what == 0 ? first : start, second, total, spare);
            return total.low();
        }

        int sortOf(Fields f, int what) {
            if (!f.sorted) {
                int n = Math.min(f.base.rows(), UNKNOWNS_MOST);
                fillTable(f, n);
                f.setKind(0, derived(n));
                f.setKind(1, centre(n));
                divideShares(f.base, true);
                f.setKind(2, form(n));
                f.setKind(3, comesToNothing(n) ? 1 : 0);
                f.sorted = true;
            }
            return f.kindAt(what);
        }

        private void fillTable(Fields f, int n) {
            for (int i = 0; i < n; i++) {
                for (int j = 0; j < n; j++) {
                    layOut(f, bracketOf(f, i, j));
                    for (int k = 0; k < n; k++) {
                        int place = (i * n + j) * n + k;
                        if (place < table.length) {
                            table[place] = lineAt(f.base.leadOf(k));
                        }
                    }
                }
            }
        }

        private long tableAt(int n, int i, int j, int k) {
            int place = (i * n + j) * n + k;
            return place >= 0 && place < table.length ? table[place] : 0;
        }

        private int derived(int n) {
            rank.begin(n);
            for (int i = 0; i < n; i++) {
                for (int j = 0; j < n; j++) {
                    for (int k = 0; k < n; k++) {
                        rank.give(k, tableAt(n, i, j, k));
                    }
                    rank.take();
                }
            }
            return n - rank.rows();
        }

        private int centre(int n) {
            rank.begin(n);
            for (int j = 0; j < n; j++) {
                for (int k = 0; k < n; k++) {
                    for (int i = 0; i < n; i++) {
                        rank.give(i, tableAt(n, i, j, k));
                    }
                    rank.take();
                }
            }
            return rank.rows();
        }

        private int form(int n) {
            rank.begin(n);
            for (int i = 0; i < n; i++) {
                for (int j = 0; j < n; j++) {
                    formNumber(n, i, j);
                    rank.giveBig(j, total);
                }
                rank.take();
            }
            return n - rank.rows();
        }

        private void formNumber(int n, int i, int j) {
            total.put(0);
            for (int k = 0; k < n && k < times.length; k++) {
                for (int l = 0; l < n && l < times.length; l++) {
                    long a = tableAt(n, i, k, l);
                    long b = tableAt(n, j, l, k);
                    if (a != 0 && b != 0) {
                        first.put(a);
                        second.times(first, times[k]);
                        first.times(second, times[l]);
                        second.put(b);
                        spare.times(first, second);
                        total.add(spare, 1);
                    }
                }
            }
        }

        // Brackets that wrap need not make a Lie algebra: no theorem on these, only the brackets themselves, will do.
        private boolean comesToNothing(int n) {
            span.begin(n);
            boolean shrinks = true;
            for (int turn = 0; turn <= n && shrinks && span.rows() > 0; turn++) {
                int before = span.rows();
                rank.begin(n);
                for (int i = 0; i < before; i++) {
                    for (int j = 0; j < before; j++) {
                        giveBracket(n, i, j);
                        rank.take();
                    }
                }
                // What fits all that the brackets fit is what they span.
                span.begin(n);
                for (int i = 0; i < rank.rows(); i++) {
                    for (int k = 0; k < n; k++) {
                        span.giveBig(k, rank.at(i, k));
                    }
                    span.take();
                }
                shrinks = span.rows() < before;
            }
            return span.rows() == 0;
        }

        /** Gives the bracket of two rows of the span, as many times as the base's rows have in common. */
        private void giveBracket(int n, int a, int b) {
            for (int k = 0; k < n && k < row.length; k++) {
                row[k].put(0);
            }
            for (int i = 0; i < n; i++) {
                for (int j = 0; j < n && span.at(a, i).sign != 0; j++) {
                    if (span.at(b, j).sign != 0) {
                        first.times(span.at(a, i), span.at(b, j));
                        addBracket(n, i, j);
                    }
                }
            }
            for (int k = 0; k < n && k < row.length && k < times.length; k++) {
                first.times(row[k], times[k]);
                rank.giveBig(k, first);
            }
        }

        private void addBracket(int n, int i, int j) {
            for (int k = 0; k < n && k < row.length; k++) {
                long c = tableAt(n, i, j, k);
                if (c != 0) {
                    second.put(c);
                    spare.times(first, second);
                    row[k].add(spare, 1);
                }
            }
        }
    }

    /** Stretches and the powers that they keep; sums that a flow keeps. */
    private static final class Invariants {
        private static final int DENSITIES_MOST = 10;
        private static final int SUMS_MOST = 4;
        private final Tally scratch;
        private final Tally gather;
        private final Kernel stretched;
        private final Kernel kept;
        private final Kernel[] dense = new Kernel[SUMS_MOST];
        private final boolean[] denseKnown = new boolean[SUMS_MOST];
        private final Poly one = new Poly();
        private final Poly two = new Poly();
        private boolean stretchedKnown;

        Invariants(Works works, Tally scratch, Tally gather) {
            this.scratch = scratch;
            this.gather = gather;
            stretched = new Kernel(works, 3);
            kept = new Kernel(works, 3);
            for (int i = 0; i < SUMS_MOST; i++) {
                dense[i] = new Kernel(works, DENSITIES_MOST);
            }
        }

        void forget() {
            stretchedKnown = false;
            for (int i = 0; i < denseKnown.length; i++) {
                denseKnown[i] = false;
            }
        }

        Kernel stretchesOf(Change change) {
            if (!stretchedKnown) {
                boolean curve = change.sort == CURVE;
                Poly f = change.right;
                stretched.begin(3);
                if (curve) {
                    stretched.give(1, 1);
                    stretched.take();
                }
                for (int i = 0; i < f.length(); i++) {
                    weigh(f.key[i], curve);
                }
                stretchedKnown = true;
            }
            return stretched;
        }

        private void weigh(long key, boolean curve) {
            int alike = power(key, U) + power(key, P) + power(key, Q) + power(key, R);
            int along = power(key, X) - power(key, P) - 2 * power(key, Q) - 3 * power(key, R);
            stretched.give(0, curve ? along + 2 : along);
            stretched.give(1, curve ? 0 : power(key, T) + 1);
            stretched.give(2, alike - 1);
            stretched.take();
        }

        Kernel keptBy(Change change, int i) {
            kept.begin(3);
            for (int j = 0; j < 3; j++) {
                kept.giveBig(j, stretched.at(i, j));
            }
            kept.take();
            if (change.sort == CURVE) {
                kept.give(1, 1);
                kept.take();
            }
            return kept;
        }

        /** The place of u^a p^b among the densities of degree m; NONE, if it is none of them. */
        int find(int m, int a, int b) {
            if (a < 0 || b < 0 || a > m || b > m || a + b < 1 || a + b > m || b == 1) {
                return NONE;
            }
            int ahead = b == 0 ? 0 : b - 1;
            for (int g = 1; g < a + b; g++) {
                ahead += g;
            }
            return ahead;
        }

        Kernel densitiesOf(Change change, int m) {
            int i = Math.max(0, Math.min(m - 1, SUMS_MOST - 1));
            if (!denseKnown[i]) {
                int names = 0;
                gather.clear();
                for (int g = 1; g <= m; g++) {
                    for (int b = 0; b <= g; b++) {
                        if (b != 1) {
                            spreadDensity(change, g - b, b, names);
                            names++;
                        }
                    }
                }
                dense[i].begin(names);
                dense[i].takeAll(gather);
                denseKnown[i] = true;
            }
            return dense[i];
        }

        // The slope along t of a density is, but for a slope along x, F times the density's own Euler; and slopes
        // along x have none.
        private void spreadDensity(Change change, int a, int b, int who) {
            two.clear();
            if (a > 0) {
                two.append((a - 1) * unit(U) + b * unit(P), a - a * b);
            }
            if (b > 1) {
                two.append(a * unit(U) + (b - 2) * unit(P) + unit(Q), -b * (b - 1));
            }
            scratch.clear();
            scratch.addProduct(two, change.right, 1, 0);
            scratch.pourInto(two);
            for (int k = 0; k <= 3; k++) {
                one.changeOf(two, U + k);
                for (int i = 0; i < k; i++) {
                    change.slopeAlong(one, one);
                }
                gather.addMoved(one, 0, k % 2 == 0 ? 1 : -1, who);
            }
        }
    }

    /** Solutions tried, shifted and stretched. */
    private static final class Trial {
        private final Tally scratch;
        private final Tally gather;
        private final Poly[] slope = new Poly[4];
        private final Poly part = new Poly();
        private final Poly moved = new Poly();
        private final Poly spare = new Poly();
        private final Poly remains = new Poly();

        Trial(Tally scratch, Tally gather) {
            this.scratch = scratch;
            this.gather = gather;
            for (int i = 0; i < slope.length; i++) {
                slope[i] = new Poly();
            }
        }

        void tryOut(Change change, Poly s, Poly out) {
            Poly f = change.right;
            slope[0].copy(s);
            for (int i = 1; i < slope.length; i++) {
                slope[i].changeOf(slope[i - 1], X);
            }
            gather.clear();
            if (change.sort == CURVE) {
                part.copy(slope[2]);
            } else {
                part.changeOf(s, T);
            }
            gather.addMoved(part, 0, 1, 0);
            for (int i = 0; i < f.length(); i++) {
                fillIn(f.key[i], f.val[i]);
                gather.addMoved(part, 0, -1, 0);
            }
            gather.pourInto(out);
        }

        private void fillIn(long key, long v) {
            part.single(power(key, X) * unit(X) + power(key, T) * unit(T), v);
            for (int l = 0; l < slope.length; l++) {
                int n = power(key, U + l);
                for (int i = 0; i < n; i++) {
                    scratch.clear();
                    scratch.addProduct(part, slope[l], 1, 0);
                    scratch.pourInto(part);
                }
            }
        }

        int restOfMoved(Change change) {
            tryOut(change, moved, spare);
            return spare.length();
        }

        private static long raise(long s, long n) {
            long r = 1;
            long square = s;
            long left = n;
            for (int i = 0; i < 63 && left > 0; i++) {
                if ((left & 1) == 1) {
                    r *= square;
                }
                square *= square;
                left >>= 1;
            }
            return r;
        }

        void shift(Poly s, int a, int b) {
            scratch.clear();
            for (int n = 0; n < s.length(); n++) {
                int i = power(s.key[n], X);
                int j = power(s.key[n], T);
                for (int k = 0; k <= i; k++) {
                    long v = s.val[n] * choose(i, k) * raise(-a, i - k);
                    for (int l = 0; l <= j; l++) {
                        scratch.add(k * unit(X) + l * unit(T), 0, v * choose(j, l) * raise(-b, j - l));
                    }
                }
            }
            scratch.pourInto(moved);
        }

        /** False, if some power of s would be below 0. */
        boolean scale(Poly s, Kernel base, int row, int by) {
            long a = base.at(row, 0).low();
            long b = base.at(row, 1).low();
            long c = base.at(row, 2).low();
            boolean whole = true;
            moved.clear();
            for (int n = 0; n < s.length(); n++) {
                long e = c - a * power(s.key[n], X) - b * power(s.key[n], T);
                long v = s.val[n] * raise(by, e);
                whole = whole && e >= 0;
                if (v != 0) {
                    moved.append(s.key[n], v);
                }
            }
            return whole;
        }
    }

    private static long choose(int n, int k) {
        int i = n * 5 + k;
        return n >= 0 && n < 5 && k >= 0 && k < 5 && i < CHOOSE.length ? CHOOSE[i] : 0;
    }
}
