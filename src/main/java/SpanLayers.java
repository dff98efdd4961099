/** An index of intervals. README.md shows its use; the document's promises say what each call answers. */
public final class SpanLayers {
    public static final int NONE = -1, BAD = -2, STATE = -3, FULL = -4;

    private static final int NO_MORE = -5;
    private static final int NOTHING = -11;
    private static final int BEYOND = -13;
    private static final int BELOW = -14;
    private static final int NO_VALUE = -2000000000;
    private static final int FAULTS = -100;
    private static final int CUT_SHORT = 100;

    private static final int SPANS = 30;
    private static final int LAST_PLACE = 999;
    private static final int MOST_WEIGHT = 99;
    private static final int CURSORS = 3;
    private static final int LISTS = 4;
    private static final int LIST_SIZE = 40;
    private static final int TAPE_SIZE = 80;
    private static final int LAST_LETTER = 127;
    // 30 parts like 100-999:-99, and 29 signs between them, are 359 bytes.
    private static final int PAPER_SIZE = 360;
    // The shortest part has 3 bytes and one that parts it from the next, so 80 bytes hold 20.
    private static final int PARTS = 20;
    private static final int STEPS = 5;
    private static final int BRACKETS = 5;
    private static final int FIGURES = 3;
    private static final int WEIGHT_FIGURES = 2;

    private static final int BY_LOW = 0, BY_HIGH = 1, BY_LENGTH = 2, BY_WEIGHT = 3, ORDERS = 5;
    private static final int DEPTH = 0, LOAD = 1;
    // The numbers of words are their places here.
    private static final String WORDS = "low high weight length number layer ";
    private static final int NO_WORD = -1, LOW = 0, HIGH = 1, WEIGHT = 2, LENGTH = 3, NUMBER = 4;
    private static final String KINDS = "shift grow clip mirror times heap ";
    private static final int SHIFT = 0, GROW = 1, CLIP = 2, MIRROR = 3, TIMES = 4;
    private static final int END_TO_END = 1, OPPOSITE = 12;

    private final Index index = new Index();
    private final Coverage coverage = new Coverage();
    private final Choice choice = new Choice();
    private final Cursor[] cursors = new Cursor[CURSORS];
    private final Tape tape = new Tape();
    private final Condition condition = new Condition();
    private final Change steps = new Change();
    private final Parts parts = new Parts();
    private final Paper sheet = new Paper();
    private final Row[] rows = new Row[LISTS];
    private final Index kept = new Index();
    private boolean isKept;

    public SpanLayers() {
        for (int k = 0; k < CURSORS; k++) {
            cursors[k] = new Cursor();
        }
        for (int k = 0; k < LISTS; k++) {
            rows[k] = new Row();
        }
    }

    // ---- spans

    public int add(int low, int high, int weight) {
        if (!isSpan(low, high, weight)) {
            return BAD;
        }
        int span = index.leastOut();
        if (span < 0) {
            return FULL;
        }
        index.bringIn(span, low, high, weight);
        index.relayer();
        return span;
    }

    public int put(int span, int low, int high, int weight) {
        if (!isBelow(span, SPANS)) {
            return NONE;
        }
        if (!isSpan(low, high, weight)) {
            return BAD;
        }
        boolean wasIn = index.isIn(span);
        index.bringIn(span, low, high, weight);
        index.relayer();
        return wasIn ? 1 : 0;
    }

    public int drop(int span) {
        if (!isBelow(span, SPANS)) {
            return NONE;
        }
        if (!index.isIn(span)) {
            return STATE;
        }
        index.takeOut(1 << span);
        return index.count();
    }

    public int of(int span, int what) {
        if (!isBelow(span, SPANS) || !isBelow(what, 8)) {
            return NONE;
        }
        if (!index.isIn(span)) {
            return STATE;
        }
        return index.factOf(index.spans[span], what);
    }

    public int how(int one, int other) {
        if (!isBelow(one, SPANS) || !isBelow(other, SPANS) || one == other) {
            return NONE;
        }
        if (!index.isIn(one) || !index.isIn(other)) {
            return STATE;
        }
        return index.spans[one].lieTo(index.spans[other]);
    }

    public int stab(int place) {
        return isPlace(place) ? index.bitsMeeting(place, place) : BAD;
    }

    public int stabbed(int place, int layer, int i) {
        if (!isPlace(place)) {
            return BAD;
        }
        if (layer < -1 || i < 0) {
            return NONE;
        }
        return index.stabbedAt(place, layer, i);
    }

    public int meet(int low, int high) {
        return isRun(low, high) ? index.bitsMeeting(low, high) : BAD;
    }

    public int pairs(int what) {
        return isBelow(what, 4) ? index.countPairs(what) : NONE;
    }

    public int nth(int order, int i) {
        if (!isBelow(order, ORDERS) || i < 0) {
            return NONE;
        }
        int count = index.sortBy(order);
        return i < count ? index.sorted[i].number : NO_MORE;
    }

    public int place(int order, int span) {
        if (!isBelow(order, ORDERS) || !isBelow(span, SPANS)) {
            return NONE;
        }
        if (!index.isIn(span)) {
            return STATE;
        }
        return index.countAhead(order, index.spans[span]);
    }

    public int layer(int layer) {
        return layer < 0 ? NONE : index.bitsOfLayer(layer);
    }

    // ---- cursors

    public int open(int cursor, int order) {
        if (!isBelow(cursor, CURSORS) || !isBelow(order, ORDERS)) {
            return NONE;
        }
        cursors[cursor].begin(order);
        return countOpen();
    }

    public int shut(int cursor) {
        if (!isBelow(cursor, CURSORS)) {
            return NONE;
        }
        if (!cursors[cursor].isOpen) {
            return STATE;
        }
        cursors[cursor].isOpen = false;
        return countOpen();
    }

    public int next(int cursor) {
        if (!isBelow(cursor, CURSORS)) {
            return NONE;
        }
        if (!cursors[cursor].isOpen) {
            return STATE;
        }
        Span found = index.firstBehind(cursors[cursor]);
        if (found == null) {
            return NO_MORE;
        }
        cursors[cursor].tell(found);
        return found.number;
    }

    public int remove(int cursor) {
        if (!isBelow(cursor, CURSORS)) {
            return NONE;
        }
        Cursor it = cursors[cursor];
        if (!it.isOpen || !it.hasTold || !index.isIn(it.last.number)) {
            return STATE;
        }
        index.takeOut(1 << it.last.number);
        return index.count();
    }

    // ---- coverage, depths, choices, groups

    public int covered(int what) {
        if (!isBelow(what, 5)) {
            return NONE;
        }
        coverage.readFrom(index);
        return coverage.total(what);
    }

    public int piece(int i, int what) {
        coverage.readFrom(index);
        if (!isBelow(i, coverage.pieces) || !isBelow(what, 3)) {
            return NONE;
        }
        return what == 0 ? coverage.first[i] : what == 1 ? coverage.last[i] : coverage.spans[i];
    }

    public int hole(int i, int what) {
        coverage.readFrom(index);
        if (!isBelow(i, coverage.countHoles()) || !isBelow(what, 2)) {
            return NONE;
        }
        return what == 0 ? coverage.last[i] + 1 : coverage.first[i + 1] - 1;
    }

    public int depth(int place, int what) {
        if (!isPlace(place)) {
            return BAD;
        }
        return isBelow(what, 2) ? index.heightAt(place, what) : NONE;
    }

    public int deepest(int what) {
        if (!isBelow(what, 6)) {
            return NONE;
        }
        // The third measure is the load turned about: its top is where the load is least.
        int top = index.topPlace(what / 2);
        if (what % 2 == 0) {
            return top;
        }
        return index.heightAt(top, what == 1 ? DEPTH : LOAD);
    }

    public int points(int i) {
        choice.takeApart(index);
        if (i == -1) {
            return choice.count;
        }
        return isBelow(i, choice.count) ? choice.highs[i] : NONE;
    }

    public int apart(int i) {
        choice.takeApart(index);
        if (i == -1) {
            return choice.count;
        }
        return isBelow(i, choice.count) ? choice.numbers[i] : NONE;
    }

    public int heaviest() {
        return choice.heaviestOf(index);
    }

    public int group(int i, int what) {
        if (!isBelow(i, index.countHighs()) || !isBelow(what, 4)) {
            return NONE;
        }
        return index.ofThoseEndingAt(index.highAt(i), what);
    }

    // ---- texts

    public int feed(int letter) {
        if (letter < 1 || letter > LAST_LETTER) {
            return BAD;
        }
        return tape.append(letter) ? tape.used : FULL;
    }

    public int clear() {
        int had = tape.used;
        tape.empty();
        return had;
    }

    public int pick() {
        int bits = condition.readEither(tape, index, 0);
        int fault = tape.finish();
        return fault < 0 ? bits : FAULTS - fault;
    }

    public int many() {
        int bits = condition.readEither(tape, index, 0);
        int fault = tape.finish();
        return fault < 0 ? Integer.bitCount(bits) : FAULTS - fault;
    }

    public int cull() {
        int bits = condition.readEither(tape, index, 0);
        int fault = tape.finish();
        if (fault >= 0) {
            return FAULTS - fault;
        }
        index.takeOut(bits);
        return Integer.bitCount(bits);
    }

    public int change(int set) {
        if (set < -1) {
            return BAD;
        }
        steps.readFrom(tape);
        int fault = tape.finish();
        return fault < 0 ? steps.changeAll(index, set) : FAULTS - fault;
    }

    public int load() {
        parts.readFrom(tape);
        int fault = tape.finish();
        return fault < 0 ? parts.bringInto(index) : FAULTS - fault;
    }

    public int spell(int order) {
        if (!isBelow(order, ORDERS)) {
            return NONE;
        }
        sheet.writeAll(index, order);
        return sheet.used;
    }

    public int paper(int i) {
        return isBelow(i, sheet.used) ? sheet.bytes[i] : NONE;
    }

    public int told(int what) {
        switch (what) {
            case 0: return index.count();
            case 1: return countOpen();
            case 2: return index.countLayers();
            case 3: return index.sumOfWeights();
            case 4: return index.sumOfLengths();
            case 5: return tape.used;
            case 6: return sheet.used;
            case 7: return index.heightAt(index.topPlace(DEPTH), DEPTH);
            case 8: return index.countHighs();
            default: return NONE;
        }
    }

    // ---- lists

    public int list(int list, int n) {
        if (!isBelow(list, LISTS)) {
            return NONE;
        }
        if (n > LIST_SIZE) {
            return BAD;
        }
        if (n < 0) {
            return BELOW;
        }
        rows[list].begin(n);
        return 1;
    }

    public int set(int list, int i, int v) {
        if (!isBelow(list, LISTS)) {
            return NONE;
        }
        if (!rows[list].isHeld) {
            return NOTHING;
        }
        return rows[list].write(i, v) ? 1 : BEYOND;
    }

    public int get(int list, int i) {
        if (!isBelow(list, LISTS) || !rows[list].isHeld || !rows[list].hasPlace(i)) {
            return NO_VALUE;
        }
        return rows[list].places[i];
    }

    public int lay(int list, int i, int order) {
        if (!isBelow(list, LISTS) || !isBelow(order, ORDERS)) {
            return NONE;
        }
        if (!rows[list].isHeld) {
            return NOTHING;
        }
        int count = index.sortBy(order);
        for (int k = 0; k < count; k++) {
            if (!rows[list].write(i + k, index.sorted[k].number)) {
                return BEYOND;
            }
        }
        return count;
    }

    public int judge(int list, int i, int order) {
        if (!isBelow(list, LISTS) || !isBelow(order, ORDERS)) {
            return NONE;
        }
        if (!rows[list].isHeld) {
            return NOTHING;
        }
        int count = index.sortBy(order);
        for (int k = 0; k < count; k++) {
            if (!rows[list].hasPlace(i + k)) {
                return CUT_SHORT + k;
            }
            if (rows[list].places[i + k] != index.sorted[k].number) {
                return k;
            }
        }
        return NO_MORE;
    }

    // ---- the image

    public int image() {
        kept.copyFrom(index);
        isKept = true;
        return kept.count();
    }

    public int undo() {
        if (!isKept) {
            return STATE;
        }
        index.copyFrom(kept);
        for (int k = 0; k < CURSORS; k++) {
            cursors[k].isOpen = false;
        }
        return index.count();
    }

    // ---- what the calls share

    private int countOpen() {
        int open = 0;
        for (int k = 0; k < CURSORS; k++) {
            open += cursors[k].isOpen ? 1 : 0;
        }
        return open;
    }

    private static boolean isBelow(int n, int end) {
        return n >= 0 && n < end;
    }

    private static boolean isPlace(int place) {
        return isBelow(place, LAST_PLACE + 1);
    }

    private static boolean isRun(int low, int high) {
        return isPlace(low) && isPlace(high) && low <= high;
    }

    private static boolean isSpan(int low, int high, int weight) {
        return isRun(low, high) && weight >= -MOST_WEIGHT && weight <= MOST_WEIGHT;
    }

    private static boolean isOfSet(int span, int bits) {
        return (bits >> span & 1) != 0;
    }

    /** One span; also what a cursor told last, as it was then. */
    private static final class Span {
        int number;
        boolean isIn;
        int low;
        int high;
        int weight;
        int layer;

        Span(int number) {
            this.number = number;
        }

        void copyFrom(Span other) {
            number = other.number;
            isIn = other.isIn;
            low = other.low;
            high = other.high;
            weight = other.weight;
            layer = other.layer;
        }

        int length() {
            return high - low + 1;
        }

        boolean meets(int from, int to) {
            return low <= to && from <= high;
        }

        boolean covers(Span other) {
            if (low > other.low || high < other.high) {
                return false;
            }
            return length() > other.length() || number < other.number;
        }

        int lieTo(Span other) {
            int plain = lieAhead(other);
            return plain >= 0 ? plain : OPPOSITE - other.lieAhead(this);
        }

        private int lieAhead(Span other) {
            if (low < other.low) {
                if (high < other.low) {
                    return high + 1 < other.low ? 0 : END_TO_END;
                }
                return high < other.high ? 2 : high == other.high ? 3 : 4;
            }
            if (low == other.low && high <= other.high) {
                return high < other.high ? 5 : 6;
            }
            return -1;
        }

        boolean isAhead(Span other, int order) {
            int first = gapByFirst(other, order);
            if (first != 0) {
                return first < 0;
            }
            int second = gapBySecond(other, order);
            if (second != 0) {
                return second < 0;
            }
            return number < other.number;
        }

        private int gapByFirst(Span other, int order) {
            switch (order) {
                case BY_LOW: return low - other.low;
                case BY_HIGH: return other.high - high;
                case BY_LENGTH: return other.length() - length();
                case BY_WEIGHT: return other.weight - weight;
                default: return layer - other.layer;
            }
        }

        private int gapBySecond(Span other, int order) {
            switch (order) {
                case BY_LOW: return high - other.high;
                case BY_WEIGHT: return other.length() - length();
                default: return low - other.low;
            }
        }

        int heightBy(int measure) {
            switch (measure) {
                case DEPTH: return 1;
                case LOAD: return weight;
                default: return -weight;
            }
        }

        int valueOf(int word) {
            switch (word) {
                case LOW: return low;
                case HIGH: return high;
                case WEIGHT: return weight;
                case LENGTH: return length();
                case NUMBER: return number;
                default: return layer;
            }
        }
    }

    /** All spans. Whoever changes them calls relayer, so that every layer is right between calls. */
    private static final class Index {
        final Span[] spans = new Span[SPANS];
        // Never null beyond the count either: it begins as a copy of spans.
        final Span[] sorted = new Span[SPANS];

        Index() {
            for (int k = 0; k < SPANS; k++) {
                spans[k] = new Span(k);
                sorted[k] = spans[k];
            }
        }

        void copyFrom(Index other) {
            for (int k = 0; k < SPANS; k++) {
                spans[k].copyFrom(other.spans[k]);
            }
        }

        boolean isIn(int span) {
            return isBelow(span, SPANS) && spans[span].isIn;
        }

        int leastOut() {
            for (int k = 0; k < SPANS; k++) {
                if (!spans[k].isIn) {
                    return k;
                }
            }
            return -1;
        }

        void bringIn(int span, int low, int high, int weight) {
            if (isBelow(span, SPANS)) {
                spans[span].isIn = true;
                spans[span].low = low;
                spans[span].high = high;
                spans[span].weight = weight;
            }
        }

        void takeOut(int bits) {
            for (int k = 0; k < SPANS; k++) {
                if (isOfSet(k, bits)) {
                    spans[k].isIn = false;
                }
            }
            relayer();
        }

        /** By length none stands ahead of what covers it, so each layer is known when it is asked for. */
        void relayer() {
            int count = sortBy(BY_LENGTH);
            for (int k = 0; k < count; k++) {
                int layer = 0;
                for (int j = 0; j < k; j++) {
                    if (sorted[j].covers(sorted[k])) {
                        layer = Math.max(layer, sorted[j].layer + 1);
                    }
                }
                sorted[k].layer = layer;
            }
        }

        int sortBy(int order) {
            int count = 0;
            for (int k = 0; k < SPANS; k++) {
                if (spans[k].isIn) {
                    int at = count;
                    while (at > 0 && spans[k].isAhead(sorted[at - 1], order)) {
                        sorted[at] = sorted[at - 1];
                        at--;
                    }
                    sorted[at] = spans[k];
                    count++;
                }
            }
            return count;
        }

        int count() {
            int count = 0;
            for (int k = 0; k < SPANS; k++) {
                count += spans[k].isIn ? 1 : 0;
            }
            return count;
        }

        int allBits() {
            return bitsMeeting(0, LAST_PLACE);
        }

        int bitsMeeting(int from, int to) {
            int bits = 0;
            for (int k = 0; k < SPANS; k++) {
                if (spans[k].isIn && spans[k].meets(from, to)) {
                    bits |= 1 << k;
                }
            }
            return bits;
        }

        int bitsOfLayer(int layer) {
            int bits = 0;
            for (int k = 0; k < SPANS; k++) {
                if (spans[k].isIn && spans[k].layer == layer) {
                    bits |= 1 << k;
                }
            }
            return bits;
        }

        int stabbedAt(int place, int layer, int i) {
            int count = sortBy(BY_LOW);
            int left = i;
            for (int k = 0; k < count; k++) {
                boolean isOne = sorted[k].meets(place, place) && (layer == -1 || sorted[k].layer == layer);
                if (isOne && left == 0) {
                    return sorted[k].number;
                }
                left -= isOne ? 1 : 0;
            }
            return NO_MORE;
        }

        int factOf(Span span, int what) {
            switch (what) {
                case 0: return span.low;
                case 1: return span.high;
                case 2: return span.weight;
                case 3: return span.length();
                case 4: return span.layer;
                case 5: return countCovering(span);
                case 6: return countCovered(span);
                // It meets itself, and is no other.
                default: return Integer.bitCount(bitsMeeting(span.low, span.high)) - 1;
            }
        }

        private int countCovering(Span span) {
            int count = 0;
            for (int k = 0; k < SPANS; k++) {
                count += spans[k].isIn && spans[k].covers(span) ? 1 : 0;
            }
            return count;
        }

        private int countCovered(Span span) {
            int count = 0;
            for (int k = 0; k < SPANS; k++) {
                count += spans[k].isIn && span.covers(spans[k]) ? 1 : 0;
            }
            return count;
        }

        int countPairs(int what) {
            int count = 0;
            for (int k = 0; k < SPANS; k++) {
                for (int j = 0; j < k; j++) {
                    if (spans[k].isIn && spans[j].isIn && isPair(spans[j], spans[k], what)) {
                        count++;
                    }
                }
            }
            return count;
        }

        private static boolean isPair(Span one, Span other, int what) {
            switch (what) {
                case 0: return one.meets(other.low, other.high);
                case 1: return one.covers(other) || other.covers(one);
                case 2: return !one.meets(other.low, other.high);
                default: return one.lieTo(other) == END_TO_END || other.lieTo(one) == END_TO_END;
            }
        }

        int countAhead(int order, Span span) {
            int count = 0;
            for (int k = 0; k < SPANS; k++) {
                count += spans[k].isIn && spans[k].isAhead(span, order) ? 1 : 0;
            }
            return count;
        }

        Span firstBehind(Cursor cursor) {
            Span found = null;
            for (int k = 0; k < SPANS; k++) {
                Span span = spans[k];
                boolean isBehind = span.isIn && (!cursor.hasTold || cursor.last.isAhead(span, cursor.order));
                if (isBehind && (found == null || span.isAhead(found, cursor.order))) {
                    found = span;
                }
            }
            return found;
        }

        int heightAt(int place, int measure) {
            int height = 0;
            for (int k = 0; k < SPANS; k++) {
                if (spans[k].isIn && spans[k].meets(place, place)) {
                    height += spans[k].heightBy(measure);
                }
            }
            return height;
        }

        /** Heights change only where a span begins and behind its end, so the least top place is one of these, or 0. */
        int topPlace(int measure) {
            int top = 0;
            for (int k = 0; k < SPANS; k++) {
                if (spans[k].isIn) {
                    top = higherOf(top, spans[k].low, measure);
                    top = higherOf(top, spans[k].high + 1, measure);
                }
            }
            return top;
        }

        private int higherOf(int top, int place, int measure) {
            if (place > LAST_PLACE) {
                return top;
            }
            int gap = heightAt(place, measure) - heightAt(top, measure);
            return gap > 0 || gap == 0 && place < top ? place : top;
        }

        int countLayers() {
            int layers = 0;
            for (int k = 0; k < SPANS; k++) {
                if (spans[k].isIn) {
                    layers = Math.max(layers, spans[k].layer + 1);
                }
            }
            return layers;
        }

        int sumOfWeights() {
            int sum = 0;
            for (int k = 0; k < SPANS; k++) {
                sum += spans[k].isIn ? spans[k].weight : 0;
            }
            return sum;
        }

        int sumOfLengths() {
            int sum = 0;
            for (int k = 0; k < SPANS; k++) {
                sum += spans[k].isIn ? spans[k].length() : 0;
            }
            return sum;
        }

        int countHighs() {
            int count = sortBy(BY_HIGH);
            int highs = 0;
            for (int k = 0; k < count; k++) {
                highs += k == 0 || sorted[k].high != sorted[k - 1].high ? 1 : 0;
            }
            return highs;
        }

        /** The i-th of the different highs, the least first; -1 where there is none. */
        int highAt(int i) {
            int left = i;
            int before = -1;
            for (int k = sortBy(BY_HIGH) - 1; k >= 0; k--) {
                if (sorted[k].high != before) {
                    if (left == 0) {
                        return sorted[k].high;
                    }
                    left--;
                    before = sorted[k].high;
                }
            }
            return -1;
        }

        int ofThoseEndingAt(int high, int what) {
            int bits = 0;
            int weights = 0;
            for (int k = 0; k < SPANS; k++) {
                if (spans[k].isIn && spans[k].high == high) {
                    bits |= 1 << k;
                    weights += spans[k].weight;
                }
            }
            switch (what) {
                case 0: return high;
                case 1: return Integer.bitCount(bits);
                case 2: return bits;
                default: return weights;
            }
        }
    }

    /** A place in an order that stays right while spans come, go and move. */
    private static final class Cursor {
        boolean isOpen;
        int order;
        boolean hasTold;
        final Span last = new Span(0);

        void begin(int inOrder) {
            isOpen = true;
            order = inOrder;
            hasTold = false;
        }

        void tell(Span span) {
            hasTold = true;
            last.copyFrom(span);
        }
    }

    /** The pieces of the spans, by places; hole i lies between the pieces i and i + 1. */
    private static final class Coverage {
        final int[] first = new int[SPANS];
        final int[] last = new int[SPANS];
        final int[] spans = new int[SPANS];
        int pieces;

        void readFrom(Index index) {
            int count = index.sortBy(BY_LOW);
            pieces = 0;
            for (int k = 0; k < count; k++) {
                Span span = index.sorted[k];
                if (pieces == 0 || span.low > last[pieces - 1] + 1) {
                    first[pieces] = span.low;
                    last[pieces] = span.high;
                    spans[pieces] = 0;
                    pieces++;
                }
                last[pieces - 1] = Math.max(last[pieces - 1], span.high);
                spans[pieces - 1]++;
            }
        }

        int countHoles() {
            return Math.max(0, pieces - 1);
        }

        int total(int what) {
            switch (what) {
                case 0: return sumOfPieces();
                case 1: return pieces;
                case 2: return countHoles();
                case 3: return sumOfHoles();
                default: return greatestHole();
            }
        }

        private int sumOfPieces() {
            int sum = 0;
            for (int k = 0; k < pieces; k++) {
                sum += last[k] - first[k] + 1;
            }
            return sum;
        }

        private int sumOfHoles() {
            int sum = 0;
            for (int k = 1; k < pieces; k++) {
                sum += first[k] - last[k - 1] - 1;
            }
            return sum;
        }

        private int greatestHole() {
            int greatest = 0;
            for (int k = 1; k < pieces; k++) {
                greatest = Math.max(greatest, first[k] - last[k - 1] - 1);
            }
            return greatest;
        }
    }

    /** Spans chosen so that none of them meet. */
    private static final class Choice {
        final int[] numbers = new int[SPANS];
        final int[] highs = new int[SPANS];
        int count;
        private final int[] best = new int[SPANS + 1];

        /** The highs of those taken are the fewest points as well: what isn't stabbed yet begins behind the last one. */
        void takeApart(Index index) {
            int end = -1;
            count = 0;
            for (int k = 0; k < SPANS; k++) {
                Span found = firstToEnd(index, end);
                if (found == null) {
                    return;
                }
                numbers[k] = found.number;
                highs[k] = found.high;
                count++;
                end = found.high;
            }
        }

        private static Span firstToEnd(Index index, int behind) {
            Span found = null;
            for (int k = 0; k < SPANS; k++) {
                Span span = index.spans[k];
                if (span.isIn && span.low > behind && (found == null || span.high < found.high)) {
                    found = span;
                }
            }
            return found;
        }

        /** From the last low to the first: the best of a span and those behind it. */
        int heaviestOf(Index index) {
            int spans = index.sortBy(BY_LOW);
            best[spans] = 0;
            for (int k = spans - 1; k >= 0; k--) {
                int behind = k + 1;
                while (behind < spans && index.sorted[behind].low <= index.sorted[k].high) {
                    behind++;
                }
                best[k] = Math.max(best[k + 1], index.sorted[k].weight + best[behind]);
            }
            return best[0];
        }
    }

    /** The bytes that were fed, and how far a text in them was read. */
    private static final class Tape {
        private final int[] bytes = new int[TAPE_SIZE];
        int used;
        int at;
        private int fault = -1;

        boolean append(int letter) {
            if (used >= TAPE_SIZE) {
                return false;
            }
            bytes[used] = letter;
            used++;
            return true;
        }

        void empty() {
            used = 0;
            at = 0;
            fault = -1;
        }

        /** Ends the reading of a text, which is at fault if it goes on: its fault, -1 where there was none. */
        int finish() {
            if (at < used) {
                fail(at);
            }
            int found = fault;
            empty();
            return found;
        }

        /** Nothing is read behind a fault, so the first one stays. */
        void fail(int place) {
            if (fault < 0) {
                fault = place;
            }
            at = used;
        }

        private int letter() {
            return at >= 0 && at < used && at < TAPE_SIZE ? bytes[at] : -1;
        }

        boolean skip(int letter) {
            if (letter() != letter) {
                return false;
            }
            at++;
            return true;
        }

        void expect(int letter) {
            if (!skip(letter)) {
                fail(at);
            }
        }

        int readNumber(int figures) {
            int from = at;
            int value = 0;
            for (int k = 0; k < figures && letter() >= '0' && letter() <= '9'; k++) {
                value = value * 10 + (letter() - '0');
                at++;
            }
            if (at == from) {
                fail(at);
            }
            return value;
        }

        int readSigned(int figures) {
            boolean isBelowZero = skip('-');
            int value = readNumber(figures);
            return isBelowZero ? -value : value;
        }

        int readNotLess(int least) {
            int from = at;
            int value = readNumber(FIGURES);
            if (value < least) {
                fail(from);
            }
            return value;
        }

        /** Reads one of the words, each of which has a blank behind it: which one it is. */
        int readOneOf(String words) {
            int from = at;
            for (int k = 0; k < TAPE_SIZE && letter() >= 'a' && letter() <= 'z'; k++) {
                at++;
            }
            int word = 0;
            int start = 0;
            for (int k = 0; k < words.length(); k++) {
                if (words.charAt(k) == ' ') {
                    if (isSame(from, words, start, k)) {
                        return word;
                    }
                    word++;
                    start = k + 1;
                }
            }
            fail(from);
            return NO_WORD;
        }

        /** Whether what was read from there on is just this run of a text. */
        private boolean isSame(int from, String text, int start, int end) {
            if (from < 0 || at > TAPE_SIZE || at - from != end - start) {
                return false;
            }
            for (int k = 0; k < end - start; k++) {
                if (bytes[from + k] != text.charAt(start + k)) {
                    return false;
                }
            }
            return true;
        }
    }

    /**
     * Reads a condition and answers at once, part by part, the spans (bits) for which it holds.
     * The number of open brackets keeps the depth low at which its methods call one another.
     */
    private static final class Condition {
        private int readEither(Tape tape, Index index, int brackets) {
            int bits = readBoth(tape, index, brackets);
            for (int k = 0; k < TAPE_SIZE && tape.skip('|'); k++) {
                bits |= readBoth(tape, index, brackets);
            }
            return bits;
        }

        private int readBoth(Tape tape, Index index, int brackets) {
            int bits = readFactor(tape, index, brackets);
            for (int k = 0; k < TAPE_SIZE && tape.skip('&'); k++) {
                bits &= readFactor(tape, index, brackets);
            }
            return bits;
        }

        private int readFactor(Tape tape, Index index, int brackets) {
            boolean isTurned = tape.skip('!');
            int bits;
            if (brackets < BRACKETS && tape.skip('(')) {
                bits = readEither(tape, index, brackets + 1);
                tape.expect(')');
            } else {
                bits = readTest(tape, index);
            }
            return isTurned ? index.allBits() & ~bits : bits;
        }

        private static int readTest(Tape tape, Index index) {
            int word = tape.readOneOf(WORDS);
            int sign = readSign(tape);
            int value = tape.readSigned(FIGURES);
            int bits = 0;
            for (int k = 0; k < SPANS; k++) {
                Span span = index.spans[k];
                if (span.isIn && isSo(span.valueOf(word), sign, value)) {
                    bits |= 1 << k;
                }
            }
            return bits;
        }

        private static int readSign(Tape tape) {
            if (tape.skip('<')) {
                return '<';
            }
            if (tape.skip('>')) {
                return '>';
            }
            if (!tape.skip('=')) {
                tape.fail(tape.at);
            }
            return '=';
        }

        private static boolean isSo(int one, int sign, int other) {
            switch (sign) {
                case '<': return one < other;
                case '>': return one > other;
                default: return one == other;
            }
        }
    }

    /** The steps of a change. */
    private static final class Change {
        private final int[] kinds = new int[STEPS];
        private final int[] firsts = new int[STEPS];
        private final int[] seconds = new int[STEPS];
        private int count;

        void readFrom(Tape tape) {
            count = 0;
            boolean isMore = true;
            for (int k = 0; k < STEPS && isMore; k++) {
                readStep(tape, k);
                count++;
                isMore = count < STEPS && tape.skip(';');
            }
        }

        private void readStep(Tape tape, int k) {
            kinds[k] = tape.readOneOf(KINDS);
            switch (kinds[k]) {
                case SHIFT:
                    tape.expect(' ');
                    firsts[k] = tape.readSigned(FIGURES);
                    break;
                case GROW:
                case TIMES:
                    tape.expect(' ');
                    firsts[k] = tape.readNumber(FIGURES);
                    break;
                case CLIP:
                    tape.expect(' ');
                    firsts[k] = tape.readNumber(FIGURES);
                    tape.expect('-');
                    seconds[k] = tape.readNotLess(firsts[k]);
                    break;
                default:
                    break;
            }
        }

        int changeAll(Index index, int set) {
            int changed = 0;
            for (int k = 0; k < SPANS; k++) {
                if (index.spans[k].isIn && isOfSet(k, set)) {
                    changeOne(index.spans[k]);
                    changed++;
                }
            }
            index.relayer();
            return changed;
        }

        private void changeOne(Span span) {
            for (int k = 0; k < count; k++) {
                takeStep(span, kinds[k], firsts[k], seconds[k]);
            }
            span.low = Math.max(0, span.low);
            span.high = Math.min(LAST_PLACE, span.high);
            span.weight = held(span.weight);
            span.isIn = span.low <= span.high;
        }

        private static void takeStep(Span span, int kind, int first, int second) {
            int low = span.low;
            int high = span.high;
            switch (kind) {
                case SHIFT:
                    span.low = low + first;
                    span.high = high + first;
                    break;
                case GROW:
                    span.low = low - first;
                    span.high = high + first;
                    break;
                case CLIP:
                    span.low = Math.max(low, first);
                    span.high = Math.min(high, second);
                    break;
                case MIRROR:
                    span.low = LAST_PLACE - high;
                    span.high = LAST_PLACE - low;
                    break;
                case TIMES:
                    span.weight = held(span.weight * first);
                    break;
                default:
                    span.weight = Math.min(MOST_WEIGHT, span.length());
                    break;
            }
        }

        private static int held(int weight) {
            return Math.max(-MOST_WEIGHT, Math.min(MOST_WEIGHT, weight));
        }
    }

    /** The parts of a load text. */
    private static final class Parts {
        private final int[] lows = new int[PARTS];
        private final int[] highs = new int[PARTS];
        private final int[] weights = new int[PARTS];
        private int count;

        void readFrom(Tape tape) {
            count = 0;
            boolean isMore = true;
            for (int k = 0; k < PARTS && isMore; k++) {
                lows[k] = tape.readNumber(FIGURES);
                tape.expect('-');
                highs[k] = tape.readNotLess(lows[k]);
                weights[k] = tape.skip(':') ? tape.readSigned(WEIGHT_FIGURES) : 1;
                count++;
                isMore = tape.skip(';');
            }
            // A text that fills the tape may end with a sign that asks for one part more.
            if (isMore) {
                tape.fail(tape.at);
            }
        }

        int bringInto(Index index) {
            int came = 0;
            for (int k = 0; k < count; k++) {
                int span = index.leastOut();
                if (span >= 0) {
                    index.bringIn(span, lows[k], highs[k], weights[k]);
                    came++;
                }
            }
            index.relayer();
            return came;
        }
    }

    /** All spans, spelled. */
    private static final class Paper {
        final int[] bytes = new int[PAPER_SIZE];
        int used;

        void writeAll(Index index, int order) {
            int count = index.sortBy(order);
            used = 0;
            for (int k = 0; k < count; k++) {
                if (k > 0) {
                    write(';');
                }
                writePart(index.sorted[k]);
            }
        }

        private void writePart(Span span) {
            writeNumber(span.low);
            write('-');
            writeNumber(span.high);
            if (span.weight != 1) {
                write(':');
                writeNumber(span.weight);
            }
        }

        private void writeNumber(int number) {
            int size = Math.abs(number);
            if (number < 0) {
                write('-');
            }
            if (size >= 100) {
                write('0' + size / 100 % 10);
            }
            if (size >= 10) {
                write('0' + size / 10 % 10);
            }
            write('0' + size % 10);
        }

        private void write(int letter) {
            if (used < PAPER_SIZE) {
                bytes[used] = letter;
                used++;
            }
        }
    }

    /** A list: nothing, or a row of ints. */
    private static final class Row {
        final int[] places = new int[LIST_SIZE];
        boolean isHeld;
        private int size;

        void begin(int ints) {
            isHeld = true;
            size = ints;
            for (int k = 0; k < LIST_SIZE; k++) {
                places[k] = 0;
            }
        }

        boolean hasPlace(int i) {
            return isBelow(i, size) && i < LIST_SIZE;
        }

        boolean write(int i, int value) {
            if (!hasPlace(i)) {
                return false;
            }
            places[i] = value;
            return true;
        }
    }
}
