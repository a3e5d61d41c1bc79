import com.sun.management.ThreadMXBean;
import java.lang.management.ManagementFactory;

/** What a run makes: little with an object, nothing with a call. */
public final class RoomTest {
    /** The room of a run has 7.3 million fields and elements: some 500 objects this large fit well. */
    private static final long MOST_BYTES_OF_AN_OBJECT = 16000;
    private static final int ROUNDS = 24;
    private static final int[] CODES = {12345670, 10234567, 10325476};

    public static void main(String[] args) {
        ThreadMXBean bean = (ThreadMXBean) ManagementFactory.getThreadMXBean();
        long warm = allCalls(new CarriedSets());
        bean.getCurrentThreadAllocatedBytes();
        long start = bean.getCurrentThreadAllocatedBytes();
        CarriedSets x = new CarriedSets();
        long made = bean.getCurrentThreadAllocatedBytes();
        long again = allCalls(x);
        long end = bean.getCurrentThreadAllocatedBytes();
        if (made - start > MOST_BYTES_OF_AN_OBJECT || end != made || warm != again) {
            System.out.println("an object: " + (made - start) + " bytes, its calls: " + (end - made) + ", answers " + warm
                + " and " + again);
            System.exit(1);
        }
        System.out.println("RoomTest: an object has " + (made - start) + " bytes, its calls make none");
    }

    private static long allCalls(CarriedSets x) {
        long sum = 0;
        for (int k = 0; k < ROUNDS; k++) {
            sum += x.points(8) + x.moves(CODES[k % 3]) + x.moves(CODES[(k + 1) % 3]) + x.drops(k % 5);
            sum += x.moves(CODES[(k + 1) % 3]) + x.order() + x.of(k % 8, k % 3) + x.number(76543210) + x.element(k);
            sum += x.image(k, 76543210) + x.least(240 - k) + x.images(k, k % 7 - 1) + x.carrier(15 << k % 5, 240);
            sum += x.holds(k) + x.heads(4, k % 4 - 1) + x.head(255 - k);
            sum += x.type("n3;m120;".charAt(k % 8)) + x.reads() + x.told(k % 8) + x.digest();
            sum += k % 8 == 7 ? x.clear() : x.back();
        }
        return sum;
    }
}
