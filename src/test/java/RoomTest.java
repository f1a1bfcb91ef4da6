import java.lang.management.ManagementFactory;

/** All that an object needs is made with it: its calls make nothing, and what it holds is small. */
public final class RoomTest {
    private static final int ROOM = 60_000;

    public static void main(String[] args) {
        dearestRun();
        long before = allocated();
        dearestRun();
        long made = allocated() - before;
        Check.due("a run makes at most " + ROOM + " bytes beside the test's own: " + made, made <= ROOM, true);
        Check.end();
    }

    private static final byte[] DOCUMENT = Docs.of(wide());
    private static final byte[] CHANGE = Docs.of("{$set:{'a.b.c.d.e.f.g.h':1},$addToSet:{r:{x:[1,2]}},$pull:{s:1}}");

    private static String wide() {
        StringBuilder out = new StringBuilder("{r:[{x:[1]},{x:[2]}],s:[1,2,3]");
        for (int i = 0; i < 200; i++) {
            out.append(",n").append(i).append(":null");
        }
        return out.append("}").toString();
    }

    private static void dearestRun() {
        Desk desk = new Desk();
        desk.read(0, DOCUMENT);
        desk.change(CHANGE);
        for (int i = 0; i < 300; i++) {
            desk.x.copy(1, 0);
            desk.x.apply(1);
            desk.x.many(1, 1);
            desk.x.many(1, 2);
        }
    }

    private static long allocated() {
        var bean = (com.sun.management.ThreadMXBean) ManagementFactory.getThreadMXBean();
        return bean.getThreadAllocatedBytes(Thread.currentThread().getId());
    }
}
