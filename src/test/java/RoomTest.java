import com.sun.management.ThreadMXBean;
import java.lang.management.ManagementFactory;

/** The room of one run is bounded: a new object is small, and no call makes anything. */
public final class RoomTest {
    private static final ThreadMXBean THREADS = (ThreadMXBean) ManagementFactory.getThreadMXBean();
    private static final int BYTES_OF_AN_OBJECT = 12_000;
    // A row of a few machine words may come from the machine itself, never one for each of the calls.
    private static final int BYTES_OF_ALL_CALLS = 2_000;

    public static void main(String[] args) {
        useAll(new SpanLayers(), 512);
        long before = THREADS.getCurrentThreadAllocatedBytes();
        SpanLayers x = new SpanLayers();
        long made = THREADS.getCurrentThreadAllocatedBytes() - before;
        before = THREADS.getCurrentThreadAllocatedBytes();
        useAll(x, 512);
        long calls = THREADS.getCurrentThreadAllocatedBytes() - before;
        boolean isFine = made > 0 && made <= BYTES_OF_AN_OBJECT && calls <= BYTES_OF_ALL_CALLS;
        System.out.println("an object: " + made + " bytes, all calls: " + calls + " bytes" + (isFine ? "" : ", which is too much"));
        if (!isFine) System.exit(1);
    }

    private static void useAll(SpanLayers x, int rounds) {
        for (int k = 0; k < rounds; k++) {
            spans(x, k);
            asks(x, k);
            texts(x, k);
            lists(x, k);
        }
    }

    private static void spans(SpanLayers x, int k) {
        x.add(k, 999 - k / 2, k % 99);
        x.put(k % 30, 1, k % 900 + 1, 3);
        if (k % 3 == 0) x.drop(k % 30);
        x.open(k % 3, k % 5);
        x.next(k % 3);
        x.next(k % 3);
        x.remove(k % 3);
        if (k % 7 == 0) x.shut(k % 3);
        if (k % 20 == 0) x.image();
        if (k % 20 == 19) x.undo();
    }

    private static void asks(SpanLayers x, int k) {
        x.of(k % 30, k % 8);
        x.how(k % 30, k % 7);
        x.stab(k);
        x.stabbed(k, -1, 1);
        x.meet(k, 999);
        x.pairs(k % 4);
        x.nth(k % 5, k % 10);
        x.place(k % 5, k % 30);
        x.layer(k % 5);
        x.covered(k % 5);
        x.piece(0, k % 3);
        x.hole(0, k % 2);
        x.depth(k, k % 2);
        x.deepest(k % 6);
        x.points(k % 5 - 1);
        x.apart(k % 5 - 1);
        x.heaviest();
        x.group(k % 5, k % 4);
        x.told(k % 9);
    }

    private static void texts(SpanLayers x, int k) {
        x.clear();
        type(x, "!(low<5|high>9)&number=3|layer>-1");
        if (k % 3 == 0) x.pick();
        if (k % 3 == 1) x.many();
        if (k % 3 == 2) x.cull();
        type(x, "shift -5;grow 3;clip 3-999;times 2;heap");
        x.change(-1);
        type(x, "3-9;4-5:-99;0-999:5");
        x.load();
        type(x, "9-3");
        x.load();
        x.spell(k % 5);
        x.paper(k % 9);
    }

    private static void type(SpanLayers x, String text) {
        for (int k = 0; k < text.length(); k++) x.feed(text.charAt(k));
    }

    private static void lists(SpanLayers x, int k) {
        x.list(k % 4, 40);
        x.set(k % 4, 3, k);
        x.get(k % 4, 3);
        x.lay(k % 4, 0, k % 5);
        x.judge(k % 4, 0, k % 5);
    }
}
