import java.lang.management.ManagementFactory;

/** The calls make no objects: all room is made with the object, and is small. */
public final class RoomTest {
    private static final int MOST_BYTES = 64_000;

    public static void main(String[] args) {
        Due due = new Due("RoomTest");
        com.sun.management.ThreadMXBean threads = (com.sun.management.ThreadMXBean) ManagementFactory.getThreadMXBean();
        long thread = Thread.currentThread().getId();
        play(new HayBoard());
        long start = threads.getThreadAllocatedBytes(thread);
        HayBoard board = new HayBoard();
        long made = threads.getThreadAllocatedBytes(thread);
        play(board);
        long played = threads.getThreadAllocatedBytes(thread);
        due.is("a new object is small", made - start > MOST_BYTES ? made - start : 0, 0);
        // What measuring itself takes is a few hundred bytes.
        due.is("calls take no room", played - made > 2_000 ? played - made : 0, 0);
        due.close();
    }

    private static void play(HayBoard x) {
        x.seed(5);
        x.deal(12);
        x.rule(1, 50);
        x.rule(2, 50);
        x.feed(0x68617920, 0x682a3220, 0x2b207720);
        x.text();
        x.feed(0x68617920, 0x682a3220, 0x2b204020);
        x.text();
        x.best(0, 2, 0);
        x.keep();
        x.sheet(0, 1, 24);
        for (int i = 0; i < 24; i++) {
            x.mark(0, i, i);
        }
        x.storm(0, 12, 0);
        x.spared(12, 0);
        x.given(12, 0);
        x.behind(40, 0);
        x.ends();
        x.lay(0, 1, 0);
        x.lay(1, 2, 0);
        x.lay(2, 3, 7);
        x.ask(0, 0);
        x.item(1, 5);
        x.rest(2, 2);
        x.copy(0, 0, 0, 5, 9);
        x.pour(0);
        x.reads(0);
        x.tell(3);
        x.check(30);
        x.days(40);
        x.back();
        x.threats(0);
        x.moves(1);
        x.fee();
        x.fine(0);
    }
}
