import java.lang.management.ManagementFactory;

/** The room that a run takes: no call makes anything, and a new object stays small. */
public final class RoomTest {
    private static final long FOR_ALL_CALLS = 16_000;
    private static final long FOR_AN_OBJECT = 64_000;

    public static void main(String[] args) {
        com.sun.management.ThreadMXBean beans = (com.sun.management.ThreadMXBean) ManagementFactory.getThreadMXBean();
        long id = Thread.currentThread().getId();
        dearestCalls(new LoadCycles());
        long start = beans.getThreadAllocatedBytes(id);
        LoadCycles x = new LoadCycles();
        long made = beans.getThreadAllocatedBytes(id);
        long answers = dearestCalls(x);
        long ended = beans.getThreadAllocatedBytes(id);
        Check check = new Check();
        check.due("bytes for an object: " + (made - start), made - start <= FOR_AN_OBJECT ? 1 : 0, 1);
        check.due("bytes for its calls: " + (ended - made), ended - made <= FOR_ALL_CALLS ? 1 : 0, 1);
        check.due("answers", answers == 0 ? 1 : 0, 0);
        check.end();
    }

    private static long dearestCalls(LoadCycles x) {
        long answers = 0;
        String text = "u;P123;H321;D213;P777";
        x.sheet(0, 0, text.length());
        for (int i = 0; i < text.length(); i++) {
            x.put(0, i, text.charAt(i));
        }
        x.sheet(1, 2, 40);
        for (int round = 0; round < 34; round++) {
            answers += x.house(0, 0, 0, text.length());
            x.put(1, round % 20, 40 + round);
            answers += x.meter(1, 2, 0, 20);
            answers += x.reading(round % 4, x.energy(0));
            answers += x.kinds(round % 4) + x.firsts(round % 4) + x.day(1, 2, 20, 0, 0);
            answers += x.sheet(2, round % 3, 60) + x.ways(3) + x.share(1) + x.mean() + x.tell(2);
        }
        return answers;
    }
}
