import com.sun.management.ThreadMXBean;
import java.lang.management.ManagementFactory;
import java.util.function.ToLongFunction;

/** All calls of a run live in one room: an object is made in one go, and no call makes another one. */
public final class RoomTest {
    private static final Checks CHECKS = new Checks();
    private static final ThreadMXBean MEASURE = (ThreadMXBean) ManagementFactory.getThreadMXBean();
    private static final int CALLS = 512;
    /** One object of the least size in each of 512 calls would be twice as much. */
    private static final long BYTES_ALLOWED = 16 * CALLS / 2;
    private static final long BYTES_OF_ONE = 20_000;
    private static long kept;

    public static void main(String[] args) {
        CHECKS.part("room");
        made(1);
        CHECKS.holds("a new object is small", made(100) < 100 * BYTES_OF_ONE);
        words();
        mending();
        softPlacesAndCodes();
        texts();
        CHECKS.end();
    }

    private static long made(int many) {
        long before = MEASURE.getCurrentThreadAllocatedBytes();
        for (int n = 0; n < many; n++) {
            kept += new PlusCodes().now();
        }
        return MEASURE.getCurrentThreadAllocatedBytes() - before;
    }

    private static void words() {
        makesNone("code", x -> x.code(2, 5));
        makesNone("a bad code", x -> x.code(6, 5));
        makesNone("of", x -> x.of(5));
        makesNone("term", x -> x.term(15));
        makesNone("word", x -> x.word(77));
        makesNone("encode", x -> x.encode(77));
        makesNone("flip", x -> x.flip(31));
        makesNone("hurt", x -> x.hurt(77, 32));
        makesNone("now", PlusCodes::now);
        makesNone("at", x -> x.at(31));
        makesNone("weight", PlusCodes::weight);
        makesNone("isWord", PlusCodes::isWord);
        makesNone("coefficient", x -> x.coefficient(31));
    }

    private static void mending() {
        makesNone("votes", PlusCodes::votes);
        makesNone("vote", x -> x.vote(3));
        makesNone("mends", PlusCodes::mends);
        makesNone("sign", x -> x.sign(31));
        makesNone("best", x -> x.best(2));
        makesNone("nearest", x -> x.nearest(1));
        makesNone("near", PlusCodes::near);
    }

    private static void softPlacesAndCodes() {
        makesNone("soft", x -> x.soft(31, -99));
        makesNone("harden", x -> x.harden(99));
        makesNone("halves", PlusCodes::halves);
        makesNone("merit", x -> x.merit(2));
        makesNone("weights", x -> x.weights(16));
        makesNone("perpendicular", PlusCodes::perpendicular);
        makesNone("asked", x -> x.asked(31));
    }

    private static void texts() {
        makesNone("type", x -> x.type(' '));
        makesNone("clear", PlusCodes::clear);
        makesNone("does", PlusCodes::does);
        makesNone("a fault", x -> x.clear() + x.type('-') + x.does());
        makesNone("back", PlusCodes::back);
        makesNone("told", x -> x.told(4));
        makesNone("digest", PlusCodes::digest);
    }

    private static void makesNone(String name, ToLongFunction<PlusCodes> call) {
        PlusCodes x = Looks.crowded(2, 5);
        long sum = call.applyAsLong(x);
        long before = MEASURE.getCurrentThreadAllocatedBytes();
        for (int n = 1; n < CALLS; n++) {
            sum += call.applyAsLong(x);
        }
        long bytes = MEASURE.getCurrentThreadAllocatedBytes() - before;
        kept += sum;
        CHECKS.holds(CALLS + " calls of " + name + " make no objects, but made " + bytes + " bytes", bytes < BYTES_ALLOWED);
    }
}
