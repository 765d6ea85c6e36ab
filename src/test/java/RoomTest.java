import com.sun.management.ThreadMXBean;
import java.lang.management.ManagementFactory;

/** All calls of a run live in one room: the rows are made with the object, and no call that answers makes more. */
public final class RoomTest {
    private static final long MOST_BYTES_OF_AN_OBJECT = 40000;
    private static final long MOST_BYTES_OF_CALLS = 4000;
    private static final int TIMES = 512;

    private static long sum = 0;

    public static void main(String[] args) {
        ChanceHall first = new ChanceHall();
        callAll(first);
        long atFirst = bytesMade();
        long atOnce = bytesMade() - atFirst;
        long before = bytesMade();
        ChanceHall hall = new ChanceHall();
        long ofObject = bytesMade() - before - atOnce;
        Check.due("an object of " + ofObject + " bytes is small", ofObject <= MOST_BYTES_OF_AN_OBJECT, true);
        before = bytesMade();
        for (int time = 0; time < TIMES; time++) {
            callAll(hall);
        }
        long ofCalls = bytesMade() - before - atOnce;
        Check.due("calls that make " + ofCalls + " bytes make next to nothing", ofCalls <= MOST_BYTES_OF_CALLS, true);
        Check.end();
    }

    private static long bytesMade() {
        ThreadMXBean threads = (ThreadMXBean) ManagementFactory.getThreadMXBean();
        return threads.getThreadAllocatedBytes(Thread.currentThread().getId());
    }

    private static void callAll(ChanceHall hall) {
        hall.begin(6, 12);
        for (int state = 0; state < 6; state++) {
            hall.lead(state, state, (state + 1) % 6);
            hall.lead(state, 6 + state, (state + 5) % 6);
            hall.swap(state, 0, 11);
            hall.pay(state, 1000 * state);
            hall.colour(state, state % 2);
        }
        sum += hall.weight(0, 1) + hall.words(12) + hall.law(0, 12, 3) + hall.lawAnew(0, 2, 2);
        sum += hall.distance(0, 3, 12) + hall.mixing(1) + hall.apart(0, 3, 12) + hall.together(12, 0);
        sum += hall.hits(0, 12, 3) + hall.reach(0) + hall.closed() + hall.period(0) + hall.rest(-1);
        sum += hall.ranked(5) + hall.walk(0, 77, 1000) + hall.draw(9) + hall.drift(1) + hall.best(0, 12);
        sum += hall.share(0) > 0f && hall.isFair() | hall.stops(1, 12) | hall.reverses() | hall.isLumped() ? 1 : 0;
    }
}
