import java.util.ArrayList;
import java.util.List;

/** What can be seen of an object: spans, cursors, tape, paper, lists and image. The object is used up by it. */
final class Probe {
    private static final int MOST_CALLS = 512;
    private static final int NO_VALUE = -2000000000;
    private final SpanLayers x;
    private final List<Integer> seen = new ArrayList<>();

    private Probe(SpanLayers x) {
        this.x = x;
    }

    /** Of an object that had so many calls. */
    static List<Integer> of(SpanLayers x, int calls) {
        Probe probe = new Probe(x);
        for (int what = 0; what < 9; what++) probe.see(x.told(what));
        probe.paper();
        probe.lists();
        probe.spans();
        for (int cursor = 0; cursor < 3; cursor++) probe.cursor(cursor);
        probe.tape();
        probe.image();
        if (calls + probe.seen.size() > MOST_CALLS) throw new IllegalStateException("more than 512 calls with those of a probe");
        return probe.seen;
    }

    private int see(int answer) {
        seen.add(answer);
        return answer;
    }

    private void paper() {
        for (int k = 0; see(x.paper(k)) >= 0; k++) { }
    }

    private void lists() {
        for (int list = 0; list < 4; list++) {
            see(x.set(list, -1, 0));
            for (int k = 0; see(x.get(list, k)) != NO_VALUE; k++) { }
        }
    }

    private void spans() {
        int in = see(x.meet(0, 999));
        for (int span = 0; span < 30; span++) {
            if ((in >> span & 1) == 0) continue;
            for (int what = 0; what < 3; what++) see(x.of(span, what));
        }
    }

    private void cursor(int cursor) {
        while (see(x.next(cursor)) >= 0) { }
    }

    /** The bytes on the tape are known by what comes of them as a load. */
    private void tape() {
        see(x.load());
        see(x.told(3));
        see(x.told(4));
    }

    private void image() {
        see(x.undo());
        spans();
        see(x.told(1));
    }
}
