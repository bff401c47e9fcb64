import java.lang.management.ManagementFactory;

/** All calls of a run live in one room: the calls themselves make no objects, and a new object makes few. */
public final class RoomTest {
    private static final com.sun.management.ThreadMXBean THREADS =
            (com.sun.management.ThreadMXBean) ManagementFactory.getThreadMXBean();
    private static final String DENSE = "ab1,bc2,ca3,ac4,cb5,ba6,ab7,bc8,ca9,ac1,cb2,ba3";
    private static final int OBJECTS = 100;

    public static void main(String[] args) {
        Check check = new Check("RoomTest");
        callAll(new BarredTurns());
        BarredTurns x = new BarredTurns();
        long before = made();
        callAll(x);
        long callsMade = made() - before;
        check.holds("calls make no objects: " + callsMade + " bytes", callsMade < 2_000);

        before = made();
        long kept = 0;
        for (int i = 0; i < OBJECTS; i++) {
            kept += new BarredTurns().count(0);
        }
        long each = (made() - before) / OBJECTS;
        check.holds("a new object is small: " + each + " bytes", kept == 0 && each < 16_000);
        check.end();
    }

    private static long made() {
        return THREADS.getThreadAllocatedBytes(Thread.currentThread().getId());
    }

    private static void callAll(BarredTurns x) {
        for (int i = 0; i < 10; i++) {
            Check.write(x, DENSE);
            x.fault();
            x.roads();
            x.turn(0, 5, i);
            x.stretch(i, 50);
            x.rank();
            x.way(0, 5, 1);
            x.unpacked(0, 5, 1);
            x.digest();
            x.blank();
        }
    }
}
