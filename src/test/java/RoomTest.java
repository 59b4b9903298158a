import com.sun.management.ThreadMXBean;
import java.lang.management.ManagementFactory;

/** What an object takes, and that 512 calls take nothing more. */
public final class RoomTest {
    /** Far below what one object per call would take. */
    private static final long SLACK = 2000;
    private static final long MOST_FOR_ONE = 8000;

    private static final Check CHECK = new Check("RoomTest");
    private static final ThreadMXBean ROOM = (ThreadMXBean) ManagementFactory.getThreadMXBean();

    public static void main(String[] args) {
        warm();
        long ahead = ROOM.getCurrentThreadAllocatedBytes();
        SlabYard yard = new SlabYard();
        long made = ROOM.getCurrentThreadAllocatedBytes() - ahead;
        CHECK.due("an object is small, not " + made, made <= MOST_FOR_ONE ? 1 : 0, 1);
        ahead = ROOM.getCurrentThreadAllocatedBytes();
        use(yard);
        long more = ROOM.getCurrentThreadAllocatedBytes() - ahead;
        CHECK.due("calls take nothing, not " + more, more <= SLACK ? 1 : 0, 1);
        CHECK.end();
    }

    private static void warm() {
        ROOM.getCurrentThreadAllocatedBytes();
        use(new SlabYard());
    }

    private static void type(SlabYard yard, String text) {
        for (int i = 0; i < text.length(); i++) {
            yard.type(text.charAt(i));
        }
    }

    private static void use(SlabYard yard) {
        type(yard, "w4;r9 8 7 6;r9 8 7 6;r5 4 3 2;r1 2 3 4;l0 0;d3 3;o1 1;s4 4 4 4;");
        yard.yard();
        for (int times = 0; times < 16; times++) {
            yard.plan(-1);
            yard.plan(times);
            yard.mend(times % 3);
            yard.lays(times % 4, times % 4, times / 4);
            yard.raises(times % 4, times / 4, times % 10);
            yard.saw(1, 1);
            yard.from();
            yard.now(times % 8);
            yard.drop(1, 1, 0);
            yard.feeds(3, 3);
            yard.barrow(3, 3);
            yard.odds(3, 6, 2, 0);
            yard.mark(times % 6, 1, 1);
            yard.keep(times % 2);
            yard.lifts(times % 4, times / 4);
            yard.day();
            yard.undo();
            yard.back(times % 2);
            yard.cell(1, 1, times % 5);
            yard.stock(times % 4);
            yard.count(times % 6);
            yard.trace();
            yard.forget();
            yard.clear();
        }
    }
}
