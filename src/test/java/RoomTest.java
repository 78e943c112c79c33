import java.lang.management.ManagementFactory;

/** What the dearest runs of 512 calls make stays far below the room that all calls of one run share. */
public final class RoomTest {
    // 7.3 million elements of 4 bytes and more: a sixteenth of that is plenty for one object's run.
    private static final long MOST_BYTES = 7_300_000L * 4 / 16;

    public static void main(String[] args) {
        Check check = new Check();
        StringBuilder house = new StringBuilder("angels 9;");
        for (String name : new String[] {"aa", "bb", "cc", "dd", "ee"}) {
            house.append("scale ").append(name).append(" 4 400;wine ").append(name).append(" 0 1 400;");
        }
        String text = house.toString();
        for (int round = 0; round < 3; round++) {
            long before = made();
            runOf(text);
            long after = made();
            check.truth("bytes made: " + (after - before), true, after - before < MOST_BYTES);
        }
        check.close("RoomTest");
    }

    private static void runOf(String text) {
        SoleraHouse x = new SoleraHouse();
        int feeds = (text.length() + 19) / 20 + 2;
        for (int calls = 1; calls < 450; calls += feeds + 30) {
            Check.put(x, text);
            x.house();
            for (int i = 0; i < 9; i++) {
                x.drawn(2, i);
                x.plan(30, 39);
                x.odds(0, 20, i);
            }
            x.image(0);
            x.image(1);
            x.restore(0);
        }
    }

    private static long made() {
        return ((com.sun.management.ThreadMXBean) ManagementFactory.getThreadMXBean())
            .getThreadAllocatedBytes(Thread.currentThread().getId());
    }
}
