import java.lang.management.ManagementFactory;

/** What a run makes is small: 512 calls of the dearest sorts against a part of the room that all calls share. */
public final class RoomTest {
    private static final long MOST_BYTES = 2_000_000;

    private static final Check check = new Check("RoomTest");
    private static final com.sun.management.ThreadMXBean threads =
        (com.sun.management.ThreadMXBean) ManagementFactory.getThreadMXBean();

    public static void main(String[] args) {
        int[] shape = Check.numbers("a{v,v,v,v,down0a{v,v,v,v,v,v,v,v,v,v,v,v,down1a{v}}}");
        for (int sort = 0; sort < 8; sort++) {
            run(sort, shape);
            long before = made();
            run(sort, shape);
            long bytes = made() - before;
            check.due("bytes made by 512 calls of sort " + sort + " (" + bytes + ") are too many", bytes > MOST_BYTES ? 1 : 0, 0);
        }
        check.close();
    }

    private static long made() {
        return threads.getThreadAllocatedBytes(Thread.currentThread().getId());
    }

    private static void run(int sort, int[] n) {
        PaperRows x = new PaperRows();
        for (int i = 0; i + 4 < n.length; i += 5) {
            x.feed(n[i], n[i + 1], n[i + 2], n[i + 3], n[i + 4]);
        }
        x.shape();
        for (int i = 0; i < 60; i++) {
            x.row(0, i, Math.min(0, i - 1), i - 1);
        }
        for (int i = 0; i < 10; i++) {
            x.reader(i / 3);
        }
        for (int i = 0; i < 430; i++) {
            call(x, sort, i, n);
        }
    }

    private static void call(PaperRows x, int sort, int i, int[] n) {
        switch (sort) {
            case 0: x.touched(i % 60, -i); break;
            case 1: x.asOf(60, i % 60, 3); break;
            case 2: x.value(i % 60, i); break;
            case 3: x.page(0, 7, i % 60, 2); break;
            case 4: x.send(); x.refer(i % 60, 0, i % 59); break;
            case 5: x.same(i % 10); break;
            case 6: x.edit(i % 10, 1, i % 1000); break;
            default: x.feed(n[0], n[1], n[2], n[3], n[4]); x.end(i % 20); x.shape(); break;
        }
    }
}
