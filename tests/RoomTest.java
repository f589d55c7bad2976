import com.sun.management.ThreadMXBean;
import java.lang.management.ManagementFactory;

/**
 * Calls make no objects but for what they throw, so that all calls of a run find room. Arguments:
 * the source's path, the document's path.
 */
public final class RoomTest {
    private static final int TIMES = 100;
    /** A hundred calls that make one object each take at least sixteen bytes each. */
    private static final long FEW = 1000;
    private static final Check CHECK = new Check();
    private static final ThreadMXBean BEAN = (ThreadMXBean) ManagementFactory.getThreadMXBean();

    public static void main(String[] args) {
        int[][] asked = {
            {0}, {6, 5}, {3, 0, 0}, {6, 10}, {6, 10}, {6, 0}, {20}, {1}, {6, 0}, {6, 60, 0}, {10, 20, 0},
            {20, 1}, {60}, {}, {6, 60}, {6, 0, 1}, {6, 20, 1}, {0, 6, 20}, {6, 9, 30, 0}, {60, 1}, {1}, {},
            {-1, 9}, {2, 6, 0, 0}, {2, 6, 0, 1}, {0, 6, 20}, {6, 20, 7, 20, 0}, {0}, {2}, {2}, {20, -1, 0},
            {}, {}, {5}, {3, 1, 6, 9}, {4, 2, 100}, {2, 1, 5}, {2, 1}, {2, 0, 2, 0, 2}, {3}, {1}
        };
        for (int call = 0; call < asked.length; call++) {
            room(call, asked[call]);
        }
        land();
        made();
        CHECK.end("RoomTest");
    }

    /** Seven horses, a row, a mare on a shelf, and a gelding, whose toss throws nothing. */
    private static HiredByLonging full() {
        HiredByLonging x = Check.of("h090010;h191010;h290410;h390610;h490810;h590010;h691210;o20;");
        x.row(2, 2, 2);
        x.put(2, 1, 5);
        x.keep(3, 1, 6, 9);
        x.keep(1, 1, 7, 9);
        x.image();
        return x;
    }

    private static void room(int call, int[] a) {
        HiredByLonging x = full();
        ModelFace.ask(x, call, a);
        long before = BEAN.getCurrentThreadAllocatedBytes();
        for (int i = 0; i < TIMES; i++) {
            ModelFace.ask(x, call, a);
        }
        few(ModelFace.CALLS[call], BEAN.getCurrentThreadAllocatedBytes() - before);
    }

    /** A text that comes, with a ride in it; the horse goes to and fro. */
    private static void land() {
        HiredByLonging x = full();
        Check.write(x, 0, "r000;r005;d01;l099;o03;");
        CHECK.due("the text comes", x.land(0), 5);
        long before = BEAN.getCurrentThreadAllocatedBytes();
        for (int i = 0; i < TIMES; i++) {
            x.land(0);
        }
        few("land of a text that comes", BEAN.getCurrentThreadAllocatedBytes() - before);
    }

    /** What an object takes when it is made: shelves of a hundred elements, six lands, eight kinds. */
    private static void made() {
        new HiredByLonging();
        long before = BEAN.getCurrentThreadAllocatedBytes();
        HiredByLonging x = new HiredByLonging();
        long bytes = BEAN.getCurrentThreadAllocatedBytes() - before;
        CHECK.due("a new object of " + bytes + " bytes is small", bytes < 20000 ? 1 : 0, 1);
        CHECK.due("and new", x.count(0), 0);
    }

    private static void few(String name, long bytes) {
        CHECK.due(name + ": bytes of " + TIMES + " calls, " + bytes + ", are few", bytes < FEW ? 1 : 0, 1);
    }
}
