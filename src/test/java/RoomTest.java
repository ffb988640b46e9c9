import com.sun.management.ThreadMXBean;
import java.lang.management.ManagementFactory;

/** How much the dearest runs of 512 calls make: an element takes a byte at least, so bytes bound both counts. */
public final class RoomTest {
    private static final long MOST_BYTES = 3000000;
    private static final String DEAR = "moves 4;men 30;ring;"
        + "rule a (left*49+own*29+right*1+13)*(left+own*7+right*8+3)/5%48;rule b left+right;rule c own/2*2+left%2;"
        + "man 0 does 1;man 3 does 2;man 9 does 3 turned;man 17 does 1 window 2;";

    private RoomTest() {
    }

    public static void main(String[] args) {
        ThreadMXBean bean = (ThreadMXBean) ManagementFactory.getThreadMXBean();
        for (int kind = 0; kind < 6; kind++) {
            long from = bean.getCurrentThreadAllocatedBytes();
            run(kind);
            long made = bean.getCurrentThreadAllocatedBytes() - from;
            System.out.println("run of kind " + kind + ": " + made + " bytes made");
            Calls.due("kind " + kind + " stays in its room", made < MOST_BYTES, true);
        }
        Calls.close("RoomTest");
    }

    private static void run(int kind) {
        MirrorDrill x = Calls.of(DEAR);
        for (int i = 0; i < 470; i++) {
            switch (kind) {
                case 0 -> x.orphan(i % 3);
                case 1 -> x.before();
                case 2 -> x = i % 10 == 0 ? new MirrorDrill() : x;
                case 3 -> {
                    x.order(i % 30, i % 4);
                    x.round(0);
                }
                case 4 -> x.drill();
                default -> mixed(x, i);
            }
        }
    }

    private static void mixed(MirrorDrill x, int i) {
        switch (i % 9) {
            case 0 -> x.unsure(i % 64);
            case 1 -> x.sight(i % 5, i % 30, i % 4);
            case 2 -> x.fits(0);
            case 3 -> x.wrong(i % 3, 0);
            case 4 -> x.cracks(i % 30, i % 4, 1 + i % 6);
            case 5 -> x.glint(i % 30, i % 4, i % 4);
            case 6 -> x.one(i % 3);
            case 7 -> x.keeps(i % 3);
            default -> x.run(i % 500);
        }
    }
}
