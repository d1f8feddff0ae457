import java.lang.reflect.Constructor;
import java.lang.reflect.Field;
import java.lang.reflect.Method;
import java.math.BigInteger;
import java.util.Random;

/** The class's own whole numbers without bound against BigInteger: all that is exact stands on them. */
public final class WorksTest {
    private static final int TRIES = 300_000;
    private static final Random DRAWN = new Random(5);
    private static Class<?> big;
    private static Field sign;
    private static Field size;
    private static Field limb;

    public static void main(String[] args) throws Exception {
        boolean own = java.util.Arrays.stream(MotionSigns.class.getDeclaredClasses()).anyMatch(c -> c.getSimpleName().equals("Big"));
        if (!own) {
            System.out.println("WorksTest: the class has no such numbers of its own");
            return;
        }
        big = Class.forName("MotionSigns$Big");
        sign = open("sign");
        size = open("size");
        limb = open("limb");
        Class<?> works = Class.forName("MotionSigns$Works");
        Constructor<?> made = works.getDeclaredConstructor();
        made.setAccessible(true);
        Object w = made.newInstance();
        Method divide = open(works, "divide", big, big, big, big);
        Method gcd = open(works, "gcd", big, big, big);
        Method times = open(big, "times", big, big);
        Method add = open(big, "add", big, int.class);
        Method copy = open(big, "copy", big);
        Method put = open(big, "put", long.class);
        Method low = open(big, "low");
        Object a = make(BigInteger.ZERO);
        Object b = make(BigInteger.ZERO);
        for (int n = 0; n < TRIES; n++) {
            if (DRAWN.nextInt(3) == 0) {
                // New ones have no room yet.
                a = make(BigInteger.ZERO);
                b = make(BigInteger.ZERO);
            }
            BigInteger common = DRAWN.nextInt(4) == 0 ? drawn() : BigInteger.ONE;
            BigInteger x = drawn().multiply(common);
            BigInteger y = drawn().multiply(common);
            Object bx = make(x);
            Object by = make(y);
            times.invoke(a, bx, by);
            check(a, x.multiply(y), "times", x, y);
            check((long) low.invoke(a) == x.multiply(y).longValue(), "low", x, y);
            gcd.invoke(w, bx, by, a);
            check(a, x.gcd(y), "gcd", x, y);
            copy.invoke(a, bx);
            int way = DRAWN.nextBoolean() ? 1 : -1;
            add.invoke(a, by, way);
            check(a, way > 0 ? x.add(y) : x.subtract(y), "add " + way, x, y);
            Object sum = make(x);
            add.invoke(sum, by, way);
            check(sum, way > 0 ? x.add(y) : x.subtract(y), "add to a tight one " + way, x, y);
            if (y.signum() != 0) {
                divide.invoke(w, bx, by, a, b);
                check(a, x.divide(y), "quotient", x, y);
                check(b, x.remainder(y), "remainder", x, y);
            }
            long v = DRAWN.nextInt(9) == 0 ? Long.MIN_VALUE : DRAWN.nextLong() >> DRAWN.nextInt(64);
            put.invoke(a, v);
            check(a, BigInteger.valueOf(v), "put", BigInteger.valueOf(v), y);
        }
        System.out.println("WorksTest: " + TRIES + " tries, none wrong");
    }

    private static Field open(String name) throws Exception {
        Field f = big.getDeclaredField(name);
        f.setAccessible(true);
        return f;
    }

    private static Method open(Class<?> c, String name, Class<?>... given) throws Exception {
        Method m = c.getDeclaredMethod(name, given);
        m.setAccessible(true);
        return m;
    }

    private static Object make(BigInteger v) throws Exception {
        Constructor<?> c = big.getDeclaredConstructor();
        c.setAccessible(true);
        Object o = c.newInstance();
        int n = (v.abs().bitLength() + 30) / 31;
        int[] limbs = new int[Math.max(3, n)];
        for (int i = 0; i < n; i++) {
            limbs[i] = v.abs().shiftRight(31 * i).intValue() & 0x7FFFFFFF;
        }
        sign.setInt(o, v.signum());
        size.setInt(o, n);
        limb.set(o, limbs);
        return o;
    }

    /** Numbers of all lengths, with limbs of all ones, of one bit and of 0 among them. */
    private static BigInteger drawn() {
        BigInteger v = BigInteger.ZERO;
        switch (DRAWN.nextInt(5)) {
            case 0 -> v = BigInteger.valueOf(DRAWN.nextInt(7));
            case 1 -> v = BigInteger.valueOf(DRAWN.nextLong());
            case 2 -> v = BigInteger.ONE.shiftLeft(DRAWN.nextInt(300)).subtract(BigInteger.valueOf(DRAWN.nextInt(3)));
            case 3 -> v = new BigInteger(DRAWN.nextInt(400) + 1, DRAWN);
            default -> {
                int[] limbs = {0, 0x7FFFFFFF, 0x40000000, 1, DRAWN.nextInt() & 0x7FFFFFFF};
                for (int i = DRAWN.nextInt(9); i >= 0; i--) {
                    v = v.shiftLeft(31).add(BigInteger.valueOf(limbs[DRAWN.nextInt(limbs.length)]));
                }
            }
        }
        return DRAWN.nextBoolean() ? v : v.negate();
    }

    private static void check(Object got, BigInteger due, String what, BigInteger x, BigInteger y) throws Exception {
        int[] limbs = (int[]) limb.get(got);
        int n = size.getInt(got);
        BigInteger v = BigInteger.ZERO;
        for (int i = n - 1; i >= 0; i--) {
            v = v.shiftLeft(31).add(BigInteger.valueOf(limbs[i]));
        }
        boolean trim = n == 0 ? sign.getInt(got) == 0 : limbs[n - 1] != 0 && sign.getInt(got) != 0;
        check(trim && (sign.getInt(got) < 0 ? v.negate() : v).equals(due), what, x, y);
    }

    private static void check(boolean good, String what, BigInteger x, BigInteger y) {
        if (!good) {
            System.out.println("WorksTest: " + what + " of " + x + " and " + y);
            System.exit(1);
        }
    }
}
