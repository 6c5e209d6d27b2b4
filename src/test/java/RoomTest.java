import com.sun.management.ThreadMXBean;
import java.lang.management.ManagementFactory;
import java.util.function.ToIntFunction;

/** That calls make no objects: all calls of a run share one room. */
public final class RoomTest {
    private static final int CALLS = 512;
    // What the machine may make by itself; an object in each of the calls would be more.
    private static final long MOST_BYTES = CALLS * 8L;
    private static final ThreadMXBean THREADS = (ThreadMXBean) ManagementFactory.getThreadMXBean();

    public static void main(String[] args) {
        makesNone("row", x -> x.row(3, 2, 40));
        makesNone("row of none", x -> x.row(3, 2, -1));
        makesNone("set", x -> x.set(0, 0, 5));
        makesNone("copy", x -> x.copy(0, 0, 0, 1, 5));
        makesNone("drop", x -> x.drop(4));
        makesNone("feed", x -> x.feed(0x736C_6F70_6520L, 6));
        makesNone("hill with a fault", HillHouses::hill);
        makesNone("hill", RoomTest::readsAnew);
        makesNone("winter", HillHouses::winter);
        makesNone("haul, undo", x -> Math.min(x.haul(4, 1), x.undo()));
        makesNone("chock", x -> x.chock(1, 1));
        makesNone("chocks", x -> x.chocks(0, 0, 6));
        makesNone("house", x -> x.house(0, 5));
        makesNone("yard", x -> x.yard(0, 0));
        makesNone("ahead", x -> x.ahead(0, 40, 1));
        makesNone("stream", x -> x.stream(2));
        makesNone("beside", x -> x.beside(0, 1, 40));
        makesNone("meet", x -> x.meet(0, 2, 20, 0));
        makesNone("street", x -> x.street(0));
        makesNone("stood", x -> x.stood(0, 0, 40));
        makesNone("stolen", x -> x.stolen(0));
        makesNone("image kept before", x -> x.image(0));
        makesNone("restore", x -> x.restore(0));
        makesNone("kind", x -> x.kind(4));
        makesNone("as", x -> x.as(4, 1));
        makesNone("ask", x -> x.ask(4, 0));
        makesNone("trace", x -> x.trace(0));
        makesNone("count", x -> x.count(0));
        makesNone("status", HillHouses::status);
        Check.end("RoomTest");
    }

    private static int readsAnew(HillHouses x) {
        x.feed(0x736C_6F70_6520L, 6);
        x.feed(0x3420_3230_3BL, 5);
        return x.hill();
    }

    private static void makesNone(String name, ToIntFunction<HillHouses> call) {
        HillHouses x = State.richButForTape();
        // The machine itself makes some at a first call.
        call.applyAsInt(x);
        long ahead = THREADS.getCurrentThreadAllocatedBytes();
        for (int k = 1; k < CALLS; k++) {
            call.applyAsInt(x);
        }
        long made = THREADS.getCurrentThreadAllocatedBytes() - ahead;
        Check.due(name + " made " + made + " bytes; too many", made <= MOST_BYTES ? 0 : 1, 0);
    }
}
