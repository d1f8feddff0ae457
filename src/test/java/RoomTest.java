import java.lang.management.ManagementFactory;
import java.util.NoSuchElementException;

/** Runs of the dearest calls stay within the room that a run has, and none is left open for long. */
public final class RoomTest {
    // 7.3 million fields and elements of eight bytes each.
    private static final long BYTES_MOST = 58_400_000;
    private static final String WIDE = "(1+x+x^2*u^2)*(1+t^3)*(1+u)*x*u";
    private static final String[] EQUATIONS = {
        "flow x*t*u*p*q*r*(1+x+t)*(1+u)*(2+p*q);",
        "flow (1+2*x+3*t)*(5+u*p)*(7*q^2*r^4+11*p^2*u^3);",
        "flow 991*x^3*p*r^2+983*t^2*u*q*r^3+977*u^3*p^3*r+971*x*q^3*r^4+967*t*p*q+953*u*r+947*x^2*u^2+941*p^4*q*r^3"
            + "+937*q^4+929*u^4*p*r^2+919*x*t*u*p*q*r+907*t^4*r^4;",
        "flow 999*998*p+997*996*u+995*994*x+991*983*t;", "flow 0;", "flow q;", "curve 0;",
        "curve (1+2*x+3*u)*(5+u*p)*(7*p^2+11*x);", "curve 999*998*x+997*991*x^2+983*977*p+971;"};
    private static int wrong;

    public static void main(String[] args) {
        com.sun.management.ThreadMXBean room = (com.sun.management.ThreadMXBean) ManagementFactory.getThreadMXBean();
        for (int k = 0; k < EQUATIONS.length; k++) {
            long before = room.getThreadAllocatedBytes(Thread.currentThread().getId());
            int calls = oneRun(k, k % 2 == 0);
            long bytes = room.getThreadAllocatedBytes(Thread.currentThread().getId()) - before;
            if (bytes > BYTES_MOST || calls < 400 || calls > 512) {
                wrong++;
                System.out.println("RoomTest: " + EQUATIONS[k] + " " + calls + " calls took " + bytes + " bytes");
            }
        }
        System.out.println("RoomTest: " + wrong + " wrong");
        if (wrong != 0) {
            System.exit(1);
        }
    }

    private static int feed(MotionSigns m, String text) {
        int calls = 0;
        for (int i = 0; i < text.length(); i += 20) {
            int[] w = new int[5];
            for (int j = 0; j < 20; j++) {
                w[j / 4] = w[j / 4] << 8 | (i + j < text.length() ? text.charAt(i + j) : 0);
            }
            m.feed(w[0], w[1], w[2], w[3], w[4]);
            calls++;
        }
        return calls;
    }

    /** Tells the equations anew over and over, so that nothing is at hand from the call before. */
    private static int oneRun(int first, boolean alone) {
        MotionSigns m = new MotionSigns();
        int calls = 0;
        for (int n = 0; calls < 460; n++) {
            String text = EQUATIONS[alone ? first : (first + n) % EQUATIONS.length];
            calls += feed(m, text) + 1;
            if (m.equation(text.length()) < 0) {
                throw new IllegalStateException("no equation: " + text);
            }
            boolean flow = m.told(0) == 1;
            String field = flow ? "t=" + WIDE + ";x=" + WIDE + ";u=" + WIDE + ";" : "x=(1+x)*u;u=(1+x+u)*(1+x^2);";
            calls += feed(m, field) + 1;
            m.field(field.length());
            String solution = flow ? "u=x^4*t^4+2*x^3*t+3*x^4+5*t^4+7*x^2*t^3+1+x+t+x*t+x^3*t^3;" : "u=(1+x)^4;";
            calls += feed(m, solution) + 1;
            m.solution(solution.length());
            calls += ask(m, flow);
        }
        return calls;
    }

    private static int ask(MotionSigns m, boolean flow) {
        int d = flow ? 2 : 3;
        m.rest(0);
        m.fields(d);
        m.closed(d);
        m.fields(1);
        m.solves();
        m.shifted(3, flow ? 4 : 0);
        int calls = 8;
        for (int i = 0; i < 4; i++) {
            int at = i;
            calls += 5;
            tolerate(() -> m.kind(1, at));
            tolerate(() -> m.kind(d, at));
            tolerate(() -> m.steps(d, at, at + 2));
            tolerate(() -> m.constant(1, at, at + 1, 0, 0));
            tolerate(() -> m.sums(at + 1));
        }
        return calls;
    }

    private static void tolerate(Runnable call) {
        try {
            call.run();
        } catch (IllegalArgumentException | NoSuchElementException e) {
            // No such row, or not closed: as the document has it.
        }
    }
}
