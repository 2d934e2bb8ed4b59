import com.sun.management.ThreadMXBean;
import java.lang.management.ManagementFactory;

/** All calls of a run live in one room: calls make no objects, and an object is a small one. */
final class RoomTest {
    private static final Due DUE = new Due();
    private static final ThreadMXBean ROOM = (ThreadMXBean) ManagementFactory.getThreadMXBean();
    private static final String BIG = "sa9c3;pl9n1s1f1;pt1l8n2s2f2;pt3l7n3f3;pt4l6n4s1f4;pt5l5n5s2f5;pt6l4n6s3f6;"
            + "pt7l3n7s4f7;pt8l2n8s5f8;pt9l1n9s6f9;ow3k2;ow2f1t2;ow1f1t0k3;ow9";
    private static final String LAW = "y:!(n=1&w<3|t>9)&[n+s]*2>7?[t+n*2]/3-w;y:n+5+5*w";

    public static void main(String[] args) {
        madeByCalls();
        heldByOne();
        DUE.finish("RoomTest");
    }

    private static long bytesNow() {
        return ROOM.getThreadAllocatedBytes(Thread.currentThread().getId());
    }

    private static void madeByCalls() {
        WokenBorder x = Due.car(BIG);
        WokenBorder small = Due.car("sa9c1;pl3;pl2n5;pt3n9s3;pl1;pt2c1;p;pn7s9;ow2;of1");
        Due.tell(x, 1, LAW);
        Due.tell(x, 2, "w0;w1;b1;l0;l1;x01;m03;y01;b2;y02;b3");
        x.law(0);
        allCalls(x, small);
        long before = bytesNow();
        int calls = 0;
        for (int i = 0; i < 20; i++) {
            calls += allCalls(x, small);
        }
        long made = bytesNow() - before;
        DUE.due(calls + " calls made " + made + " bytes of objects", made < 2000, true);
    }

    private static int allCalls(WokenBorder x, WokenBorder small) {
        int sum = 0;
        sum += x.nights(20, 3) + x.perform(0) + x.run(0, 1) + x.image() + x.back() + x.undo();
        sum += x.wake(0) + x.lie(0) + x.swap(0, 1) + x.move(0, 3) + x.say(0, 1) + x.border(1) + x.undo();
        sum += x.before(0) + x.words(0) + x.tonight(1) + x.fit(9) + x.best() + x.heads(9, -1) + x.between();
        sum += x.favour(1, 2, 1, 1, 0) + x.rests(1, 3, -1) + x.which(3) + x.time(1, 1) + x.bound(2);
        sum += small.order(1, 0) + small.give(0) + small.words(1) + small.before(1) + small.longest(1);
        sum += x.fault(0) + x.fault(1) + x.fault(2) + x.count(13) + x.tired() + x.beside(3) + x.slack(1);
        return sum == Integer.MIN_VALUE ? 0 : 37;
    }

    private static void heldByOne() {
        WokenBorder warm = new WokenBorder();
        long before = bytesNow();
        WokenBorder x = new WokenBorder();
        long made = bytesNow() - before;
        DUE.due("an object holds " + made + " bytes", made < 40000 && x.count(0) == warm.count(0), true);
    }
}
