import com.sun.management.ThreadMXBean;
import java.lang.management.ManagementFactory;

/** The room for all calls of a run: what the dearest runs of 512 calls make stays small. */
public final class RoomTest {
    private static final Check CHECK = new Check("RoomTest");
    // The room holds 7.3 million fields and elements; a run is to stay far below it.
    private static final long MOST_BYTES = 2_000_000;
    private static final String NET = "net a 5 0 3 0 4 0 4 0 4 0 1 0 3 0 4 0 1 0 1 4 3 4 1 0 4 0 1 0 2;";

    public static void main(String[] args) {
        CHECK.due("texts", bytesOf(RoomTest::texts) < MOST_BYTES, true);
        CHECK.due("long searches", bytesOf(RoomTest::longSearches) < MOST_BYTES, true);
        CHECK.due("acts", bytesOf(RoomTest::acts) < MOST_BYTES, true);
        CHECK.due("questions", bytesOf(RoomTest::questions) < MOST_BYTES, true);
        CHECK.end();
    }

    private static long bytesOf(Runnable run) {
        ThreadMXBean bean = (ThreadMXBean) ManagementFactory.getThreadMXBean();
        long before = bean.getCurrentThreadAllocatedBytes();
        run.run();
        return bean.getCurrentThreadAllocatedBytes() - before;
    }

    private static void texts() {
        SquareCuts cuts = new SquareCuts();
        String text = "drawn a(1);drawn b(1);drawn c(1);drawn d(1);drawn e(1);drawn f(1);";
        for (int i = 0; i < 100; i++) {
            Check.tell(cuts, text);
        }
    }

    private static void longSearches() {
        SquareCuts cuts = new SquareCuts();
        for (int i = 0; i < 100; i++) {
            Check.tell(cuts, NET);
        }
    }

    private static void acts() {
        SquareCuts cuts = Check.told("drawn a " + "(1)".repeat(20) + ";");
        cuts.join(0, 0, true);
        for (int i = 0; i < 250; i++) {
            cuts.turn(1, i & 7);
            cuts.undo();
        }
    }

    private static void questions() {
        SquareCuts cuts = Check.told("drawn a " + "(1)".repeat(20) + ";");
        cuts.join(0, 0, true);
        for (int i = 0; i < 72; i++) {
            cuts.lines(i & 1);
            cuts.alike(0, 1);
            cuts.alike(1, 1);
            cuts.rect(1, 5);
            cuts.print(1);
            cuts.keep(i & 1, false);
            cuts.side(1, 39, true);
        }
    }
}
