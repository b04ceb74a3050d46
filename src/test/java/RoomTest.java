import com.sun.management.ThreadMXBean;
import java.lang.management.ManagementFactory;

/** What a run makes is kept small: an object is a few rows, and its calls make nothing more. */
public final class RoomTest {
    private static final ThreadMXBean THREADS = (ThreadMXBean) ManagementFactory.getThreadMXBean();
    private static final String TEXT = "ring prime 97 order lex x y z;poly x7+x6+x5+x4+x3+x2+x+1;poly y6+y5+y4+y3+y2+y+1;"
        + "poly x y - 1;poly y2 - 1;poly x + y";

    public static void main(String[] args) {
        round(new TermDesk());
        long before = made();
        TermDesk desk = new TermDesk();
        long object = made() - before;
        Checks.due("bytes of an object, " + object + ", are under 200000", object < 200000, true);
        before = made();
        for (int i = 0; i < 20; i++) {
            round(desk);
        }
        long calls = made() - before;
        Checks.due("bytes made by some 400 calls, " + calls + ", are under 1000", calls < 1000, true);
        Checks.end("RoomTest");
    }

    private static long made() {
        return THREADS.getThreadAllocatedBytes(Thread.currentThread().getId());
    }

    private static final byte[] BYTES = java.util.Arrays.copyOf(TEXT.getBytes(), (TEXT.length() + 19) / 20 * 20);

    private static void round(TermDesk desk) {
        for (int at = 0; at < BYTES.length; at += 20) {
            desk.feed(Checks.four(BYTES, at), Checks.four(BYTES, at + 4), Checks.four(BYTES, at + 8),
                Checks.four(BYTES, at + 12), Checks.four(BYTES, at + 16));
        }
        desk.desk(TEXT.length());
        desk.times(0, 1, 5);
        desk.times(5, 4, 6);
        desk.roots(5);
        desk.common(5, 1, 6);
        desk.primitive(5, 7);
        desk.content(5, 7);
        desk.order(2, 1, 0);
        desk.divided(5, 28, 2);
        desk.rest(5, 28, 6);
        desk.missing(28);
        desk.complete(28);
        desk.swap(5, 0, 2, 6);
        desk.put(5, 0, 4, 6);
        desk.undo();
        desk.undo();
        desk.size(2);
    }
}
