import java.lang.management.ManagementFactory;

/** What the calls of one object make stays far below the room of a run (some 600,000 objects, 7.3 million elements). */
public final class RoomTest {
    private static final Check CHECK = new Check("RoomTest");
    private static final long MOST_BYTES = 64 * 1024;

    public static void main(String[] args) {
        com.sun.management.ThreadMXBean threads = (com.sun.management.ThreadMXBean) ManagementFactory.getThreadMXBean();
        long self = Thread.currentThread().getId();
        calls(new LayeredCharters());
        long before = threads.getThreadAllocatedBytes(self);
        int answers = calls(new LayeredCharters());
        long made = threads.getThreadAllocatedBytes(self) - before;
        CHECK.is("answers", answers == 0 ? 1 : 0, 0);
        CHECK.is("within the room: " + made + " bytes", made <= MOST_BYTES ? 1 : 0, 1);
        CHECK.end();
    }

    private static int calls(LayeredCharters x) {
        int answers = x.save(0) + x.save(1);
        for (int round = 0; round < 30; round++) {
            for (int i = 0; i < 5; i++) answers += x.add(i, i == 0 ? 0 : 1 + (i + round) % 2, 5, 6, 1 + round % 9);
            answers += x.worstBan() + x.bestWaiver(5) + x.count(4) + x.count(6) + x.rule(0, 5) + x.ifStruck(0);
            answers += x.join(0, 5) + x.act(0, 0) + x.put(0x30702a2aL) + x.read();
            if (round % 6 == 5) answers += x.tidy();
        }
        return answers;
    }
}
