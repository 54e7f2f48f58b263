import com.sun.management.ThreadMXBean;
import java.lang.management.ManagementFactory;

/** All calls of a run share one room: an object is small, and no call makes anything. */
public final class RoomTest {
    private static final ThreadMXBean BEAN = (ThreadMXBean) ManagementFactory.getThreadMXBean();
    private static final long FORTY = (1L << 40) - 1;
    private static final int MOST_FOR_AN_OBJECT = 40_000;
    private static final int MOST_FOR_ALL_CALLS = 20_000;

    private static long used() {
        return BEAN.getThreadAllocatedBytes(Thread.currentThread().getId());
    }

    public static void main(String[] args) {
        every(new FittingRings());
        used();
        long before = used();
        FittingRings x = new FittingRings();
        long made = used() - before;
        before = used();
        for (int i = 0; i < 2; i++) {
            every(x);
        }
        long called = used() - before;
        System.out.println("an object has " + made + " bytes, all calls made " + called);
        if (made > MOST_FOR_AN_OBJECT || called > MOST_FOR_ALL_CALLS) {
            System.exit(1);
        }
    }

    private static long every(FittingRings x) {
        long sum = x.image() + x.back() + x.point(1, 2);
        sum += x.deal(5, 40 - x.count(0) > 0 ? 40 - x.count(0) : 1, 7);
        sum += x.told(0, 2) + x.set(0, 5) + x.turns(0, 3) + x.join(0, 1, 1) + x.mesh(7, 1) + x.near(0, 1, 7) + x.measure(1, FORTY);
        for (int side = 0; side < 2; side++) {
            sum += x.isRing(side, FORTY) + x.core(side, 3, FORTY) + x.fewest(side, 1023) + x.better(side, 0, FORTY) + x.grown(side, 65535, 0);
            sum += x.order(side, FORTY, 3) + x.classes(side, FORTY, 3) + x.taken(side, FORTY) + x.film(0, side, FORTY);
            for (int measure = 0; measure < 2; measure++) {
                sum += x.left(side, measure, FORTY) + x.greatest(side, measure, 65535) + x.all(side, measure, 65535, 1);
                sum += x.turning(side, measure, 65535, 1) + x.cover(0, side, measure, FORTY);
                for (int rule = 0; rule < 5; rule++) {
                    int k = x.measure(measure, x.better(side, 0, 65535)) + 1;
                    sum += x.bound(rule, side, measure, FORTY) + x.prove(rule, side, measure, k, 65535) + x.writes(1);
                    sum += x.check(1, rule, side, measure, k, 65535);
                }
            }
        }
        sum += x.proof(0) + x.slip(0, 0) + x.feed(8, 0x6a6f696e20302031L) + x.text() + x.mean(1, 12, 10, 5, 0);
        sum += x.hold(0, 1, 0) + x.handAs(0, 0) + x.hold(0, 2, 3) + x.handBound(0, 0, 1, FORTY) + x.hold(0, 3, 5) + x.handLess(0, 1);
        return sum + x.sheet(2, 2, 60) + x.cell(2, 0, 1) + x.read(2, 0) + x.copy(2, 0, 2, 1, 59) + x.count(1);
    }
}
