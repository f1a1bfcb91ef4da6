import java.lang.management.ManagementFactory;

/** What an object and its 512 calls make has room where all calls of a run live. */
public final class RoomTest {
    /** 600,000 objects, and 7.3 million fields and elements of at most eight bytes. */
    private static final long ROOM = 600_000L * 16 + 7_300_000L * 8;

    private static final String DOCUMENT = Docs.mostElements();
    private static final String CHANGE = "{$set:{'a.b.c.d.e.f.g.h':1},$addToSet:{r:{x:[1,2]}},$pull:{s:1},$inc:{'d.e':1}}";

    public static void main(String[] args) {
        room();
        Check.end();
    }

    private static void room() {
        dearestRun();
        long before = allocated();
        dearestRun();
        long made = allocated() - before;
        Check.due("a run makes at most " + ROOM + " bytes: " + made, made <= ROOM, true);
    }

    private static void dearestRun() {
        Desk desk = new Desk();
        desk.read(0, DOCUMENT);
        desk.read(1, "{r:[{x:[1]},{x:[2]}],s:[1,2,3]}");
        desk.change(CHANGE);
        while (desk.callsLeft() >= 5) {
            desk.copy(2, 1);
            desk.apply(2);
            desk.apply(0);
            desk.many(0, 1);
            desk.many(0, 2);
        }
    }

    private static long allocated() {
        var bean = (com.sun.management.ThreadMXBean) ManagementFactory.getThreadMXBean();
        return bean.getThreadAllocatedBytes(Thread.currentThread().getId());
    }
}
