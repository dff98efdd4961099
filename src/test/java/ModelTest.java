import java.lang.reflect.Method;
import java.util.ArrayList;
import java.util.Arrays;
import java.util.BitSet;
import java.util.Collections;
import java.util.List;
import java.util.Map;
import java.util.Random;
import java.util.Set;
import java.util.TreeMap;
import java.util.TreeSet;
import java.util.regex.Matcher;
import java.util.regex.Pattern;

/** Long runs of calls, with fixed seeds, whose answers are compared with those of a plain model. */
public final class ModelTest {
    private static final int RUNS = 1500;
    private static final int CALLS = 512;
    private static int wrong = 0;

    public static void main(String[] args) throws Exception {
        for (int seed = 1; seed <= RUNS && wrong < 20; seed++) new Run(seed).go();
        checkTextsFeltOut();
        System.out.println(wrong == 0 ? RUNS + " runs are as due" : wrong + " answers are not as due");
        if (wrong != 0) System.exit(1);
    }

    /** Faults of all short texts over a few signs, where the pattern of a whole text can tell what goes on. */
    private static void checkTextsFeltOut() {
        feelOut("", "0-:;9", 7, Texts.LOADS, SpanLayers::load);
        feelOut("low<5", "&|!()", 5, null, SpanLayers::pick);
        feelOut("heap", ";heap 5", 4, null, x -> x.change(-1));
    }

    private interface Reading { int of(SpanLayers x); }

    private static void feelOut(String start, String signs, int more, Pattern whole, Reading reading) {
        SpanLayers x = new SpanLayers();
        for (char c : start.toCharArray()) x.feed(c);
        int got = reading.of(x);
        int want = start.startsWith("low") ? Texts.faultOfCondition(start)
            : start.startsWith("heap") ? Texts.faultOfChange(start) : Texts.faultOfLoad(start);
        if (whole != null) want = feltFault(start, whole);
        if (want >= 0 ? got != -100 - want : got < 0) {
            wrong++;
            System.out.println("text " + start + " answered " + got + ", fault due is " + want);
        }
        if (more > 0) for (char c : signs.toCharArray()) feelOut(start + c, signs, more - 1, whole, reading);
    }

    /** The first place behind which the pattern can't be met any more; numbers that are less are looked at apart. */
    private static int feltFault(String text, Pattern whole) {
        for (int end = 1; end <= text.length(); end++) {
            Matcher m = whole.matcher(text.substring(0, end));
            if (!m.matches() && !m.hitEnd()) return lessFault(text, end - 1);
        }
        return lessFault(text, whole.matcher(text).matches() ? -1 : text.length());
    }

    private static int lessFault(String text, int fault) {
        Matcher m = Pattern.compile("(?:^|;)(\\d{1,3})-(\\d{1,3})").matcher(text);
        while (m.find()) {
            boolean isRead = fault < 0 || m.start(2) < fault;
            if (isRead && Integer.parseInt(m.group(2)) < Integer.parseInt(m.group(1))) return m.start(2);
        }
        return fault;
    }

    /** One run on one object, and on one model. */
    private static final class Run {
        private final Random random;
        private final int seed;
        private final SpanLayers real = new SpanLayers();
        private final Model model = new Model();
        private final List<String> rows = new ArrayList<>();
        private final int reach;
        private boolean isBroken;
        private int calls;

        Run(int seed) {
            this.seed = seed;
            random = new Random(seed);
            reach = seed % 3 == 0 ? 1000 : seed % 3 == 1 ? 12 : 60;
        }

        void go() throws Exception {
            while (calls < CALLS && !isBroken) step();
        }

        private void step() throws Exception {
            int kind = random.nextInt(20);
            if (kind < 4) { int[] s = span(); call("add", s[0], s[1], s[2]); }
            else if (kind == 4) { int[] s = span(); call("put", number(30), s[0], s[1], s[2]); }
            else if (kind == 5 && random.nextInt(3) == 0) call("drop", number(30));
            else if (kind == 6) cursor();
            else if (kind == 7 && random.nextInt(3) == 0) text();
            else if (kind == 8 && random.nextInt(4) == 0) call(random.nextBoolean() ? "image" : "undo");
            else if (kind == 9) list();
            else ask();
        }

        private void cursor() throws Exception {
            int cursor = number(3);
            switch (random.nextInt(6)) {
                case 0 -> call("open", cursor, number(5));
                case 1 -> { if (random.nextInt(3) == 0) call("shut", cursor); }
                case 2 -> call("remove", cursor);
                default -> call("next", cursor);
            }
        }

        private void ask() throws Exception {
            switch (random.nextInt(22)) {
                case 0 -> call("of", number(30), number(8));
                case 1 -> call("how", number(30), number(30));
                case 2 -> call("stab", place());
                case 3 -> call("stabbed", place(), number(5) - 1, number(6));
                case 4 -> call("meet", place(), place());
                case 5 -> call("pairs", number(4));
                case 6 -> call("nth", number(5), number(30));
                case 7 -> call("place", number(5), number(30));
                case 8 -> call("layer", number(8));
                case 9 -> call("covered", number(5));
                case 10 -> call("piece", number(6), number(3));
                case 11 -> call("hole", number(5), number(2));
                case 12 -> call("depth", place(), number(2));
                case 13 -> call("deepest", number(6));
                case 14 -> call("points", number(8) - 1);
                case 15 -> call("apart", number(8) - 1);
                case 16 -> call("heaviest");
                case 17 -> call("group", number(10), number(4));
                case 18 -> call("spell", number(5));
                case 19 -> call("paper", number(200));
                case 20 -> call("told", number(9));
                default -> call("get", number(4), number(40));
            }
        }

        private void list() throws Exception {
            int list = number(4);
            switch (random.nextInt(6)) {
                case 0 -> call("list", list, number(41));
                case 1 -> call("set", list, number(40), number(30));
                case 2, 3 -> {
                    int from = number(20);
                    int order = number(5);
                    call("lay", list, from, order);
                    call("judge", list, from, order);
                }
                default -> call("judge", list, number(20), number(5));
            }
        }

        private void text() throws Exception {
            int kind = random.nextInt(3);
            String text = kind == 0 ? condition(0) : kind == 1 ? change() : load();
            if (random.nextInt(3) == 0) text = spoil(text);
            for (char c : text.toCharArray()) {
                if (calls < CALLS - 1) call("feed", c);
            }
            if (random.nextInt(12) == 0) call("feed", number(128));
            if (random.nextInt(20) == 0) call("clear");
            switch (random.nextInt(15)) {
                case 0 -> call("change", random.nextInt());
                case 1 -> call("load");
                case 2 -> call("many");
                default -> {
                    if (kind == 0) call(random.nextInt(4) == 0 ? "cull" : random.nextBoolean() ? "pick" : "many");
                    else if (kind == 1) call("change", random.nextInt(3) == 0 ? -1 : random.nextInt() >>> 1);
                    else call("load");
                }
            }
        }

        private String condition(int depth) {
            int kind = random.nextInt(depth > 6 ? 3 : 9);
            if (kind < 4) {
                String[] words = {"low", "high", "weight", "length", "number", "layer"};
                String minus = random.nextInt(4) == 0 ? "-" : "";
                return words[random.nextInt(6)] + "<=>".charAt(random.nextInt(3)) + minus + random.nextInt(reach);
            }
            if (kind == 4) return "!" + condition(depth + 1);
            if (kind == 5 || kind == 6) return "(" + condition(depth + 1) + ")";
            return condition(depth + 1) + (kind == 7 ? "&" : "|") + condition(depth + 1);
        }

        private String change() {
            StringBuilder all = new StringBuilder();
            int steps = 1 + random.nextInt(random.nextInt(4) == 0 ? 6 : 3);
            for (int k = 0; k < steps; k++) {
                int low = random.nextInt(reach);
                all.append(k > 0 ? ";" : "").append(switch (random.nextInt(7)) {
                    case 0 -> "shift " + random.nextInt(reach);
                    case 1 -> "shift -" + random.nextInt(reach);
                    case 2 -> "grow " + random.nextInt(reach);
                    case 3 -> "clip " + low + "-" + (low + random.nextInt(1000 - low));
                    case 4 -> "mirror";
                    case 5 -> "times " + random.nextInt(20);
                    default -> "heap";
                });
            }
            return all.toString();
        }

        private String load() {
            StringBuilder all = new StringBuilder();
            int parts = 1 + random.nextInt(4);
            for (int k = 0; k < parts; k++) {
                int[] s = span();
                all.append(k > 0 ? ";" : "").append(s[0]).append('-').append(s[1]);
                if (s[2] != 1) all.append(':').append(s[2]);
            }
            return all.toString();
        }

        private String spoil(String text) {
            int at = random.nextInt(text.length());
            String signs = "low!()&|<=>-;: 0159ahx";
            char sign = signs.charAt(random.nextInt(signs.length()));
            return switch (random.nextInt(4)) {
                case 0 -> text.substring(0, at);
                case 1 -> text.substring(0, at) + text.substring(at + 1);
                case 2 -> text.substring(0, at) + sign + text.substring(at + 1);
                default -> text.substring(0, at) + sign + text.substring(at);
            };
        }

        private int[] span() {
            int low = random.nextInt(10) == 0 ? 995 + random.nextInt(6) : random.nextInt(reach);
            int high = low + random.nextInt(random.nextInt(4) == 0 ? reach : 8);
            if (random.nextInt(60) == 0) high = low - 1;
            if (random.nextInt(20) != 0) high = Math.min(high, 999);
            int weight = random.nextInt(12) == 0 ? random.nextInt(220) - 110 : random.nextInt(9) - 4;
            return new int[] {low, high, weight};
        }

        private int place() {
            return random.nextInt(30) == 0 ? random.nextInt(1010) - 5 : random.nextInt(reach + 2);
        }

        private int number(int end) {
            return random.nextInt(40) == 0 ? (random.nextBoolean() ? end : -1) : random.nextInt(end);
        }

        private void call(String name, int... values) throws Exception {
            if (isBroken) return;
            calls++;
            Object[] boxed = Arrays.stream(values).boxed().toArray();
            int want = (Integer) METHODS_OF_MODEL.get(name).invoke(model, boxed);
            int got = (Integer) METHODS_OF_REAL.get(name).invoke(real, boxed);
            rows.add(name + Arrays.toString(values) + " " + got);
            if (got != want) {
                isBroken = true;
                wrong++;
                System.out.println("run " + seed + ": " + String.join(", ", rows) + "; due is " + want);
            }
        }
    }

    private static final Map<String, Method> METHODS_OF_MODEL = methods(Model.class);
    private static final Map<String, Method> METHODS_OF_REAL = methods(SpanLayers.class);

    private static Map<String, Method> methods(Class<?> of) {
        Map<String, Method> all = new TreeMap<>();
        for (Method m : of.getMethods()) if (m.getDeclaringClass() == of) all.put(m.getName(), m);
        return all;
    }

    /** Where texts are at fault, found without reading them as the class does. */
    private static final class Texts {
        static final String PART = "\\d{1,3}-\\d{1,3}(:-?\\d{1,2})?";
        static final Pattern LOADS = Pattern.compile(PART + "(;" + PART + ")*");
        static final Set<String> WORDS = Set.of("low", "high", "weight", "length", "number", "layer");
        static final Set<String> STEPS = Set.of("shift", "grow", "clip", "mirror", "times", "heap");

        static int faultOfLoad(String text) {
            return feltFault(text, LOADS);
        }

        static int faultOfCondition(String text) {
            int depth = 0;
            int state = 'f';
            int at = 0;
            while (at < text.length()) {
                char c = text.charAt(at);
                if (state == 'o') {
                    if (c == ')' && depth > 0) depth--;
                    else if (c == '&' || c == '|') state = 'f';
                    else return at;
                    at++;
                } else if (c == '!' && state == 'f') {
                    state = 'p';
                    at++;
                } else if (c == '(' && depth < 5) {
                    depth++;
                    state = 'f';
                    at++;
                } else {
                    int end = spanOf("[a-z]*", text, at);
                    if (!WORDS.contains(text.substring(at, end))) return at;
                    int sign = spanOf("[<=>]", text, end);
                    if (sign < 0) return end;
                    int figures = spanOf("-?\\d{1,3}", text, sign);
                    if (figures < 0) return spanOf("-?", text, sign);
                    at = figures;
                    state = 'o';
                }
            }
            return state == 'o' && depth == 0 ? -1 : text.length();
        }

        static int faultOfChange(String text) {
            int at = 0;
            for (int step = 1; step <= 5; step++) {
                int end = spanOf("[a-z]*", text, at);
                String word = text.substring(at, end);
                if (!STEPS.contains(word)) return at;
                String[] then = switch (word) {
                    case "shift" -> new String[] {" ", "-?", "\\d{1,3}"};
                    case "grow", "times" -> new String[] {" ", "\\d{1,3}"};
                    case "clip" -> new String[] {" ", "\\d{1,3}", "-", "\\d{1,3}"};
                    default -> new String[0];
                };
                int first = -1;
                for (String one : then) {
                    int behind = spanOf(one, text, end);
                    if (behind < 0) return end;
                    if (one.startsWith("\\d")) {
                        int value = Integer.parseInt(text.substring(end, behind));
                        if (value < first) return end;
                        first = value;
                    }
                    end = behind;
                }
                if (end == text.length()) return -1;
                if (text.charAt(end) != ';' || step == 5) return end;
                at = end + 1;
            }
            return -1;
        }

        private static int spanOf(String pattern, String text, int at) {
            Matcher m = Pattern.compile(pattern).matcher(text).region(at, text.length());
            return m.lookingAt() ? m.end() : -1;
        }
    }

    /** The document, told once more, by single places. */
    public static final class Model {
        private record Span(int number, int low, int high, int weight) {
            BitSet places() {
                BitSet all = new BitSet();
                all.set(low, high + 1);
                return all;
            }
        }

        private static final class Cursor {
            int order = -1;
            List<Integer> key;
            int number;
        }

        private TreeMap<Integer, Span> spans = new TreeMap<>();
        private TreeMap<Integer, Span> image;
        private final Cursor[] cursors = {new Cursor(), new Cursor(), new Cursor()};
        private String tape = "";
        private String paper = "";
        private final int[][] lists = new int[4][];

        private static boolean no(int n, int end) { return n < 0 || n >= end; }

        private static boolean bad(int low, int high, int weight) {
            return low < 0 || high > 999 || low > high || weight < -99 || weight > 99;
        }

        private static boolean meet(Span a, Span b) { return a.places().intersects(b.places()); }

        private static boolean covers(Span a, Span b) {
            BitSet all = a.places();
            all.and(b.places());
            if (a.number == b.number || !all.equals(b.places())) return false;
            return !a.places().equals(b.places()) || a.number < b.number;
        }

        private int layerOf(Span s, Map<Integer, Integer> known) {
            Integer before = known.get(s.number);
            if (before != null) return before;
            int layer = 0;
            for (Span o : spans.values()) if (covers(o, s)) layer = Math.max(layer, 1 + layerOf(o, known));
            known.put(s.number, layer);
            return layer;
        }

        private Map<Integer, Integer> layers() {
            Map<Integer, Integer> known = new TreeMap<>();
            for (Span s : spans.values()) layerOf(s, known);
            return known;
        }

        private static int length(Span s) { return s.places().cardinality(); }

        private static List<Integer> key(int order, Span s, int layer) {
            return switch (order) {
                case 0 -> List.of(s.low, s.high, s.number);
                case 1 -> List.of(-s.high, s.low, s.number);
                case 2 -> List.of(-length(s), s.low, s.number);
                case 3 -> List.of(-s.weight, -length(s), s.number);
                default -> List.of(layer, s.low, s.number);
            };
        }

        private static int compare(List<Integer> a, List<Integer> b) {
            return Arrays.compare(a.stream().mapToInt(v -> v).toArray(), b.stream().mapToInt(v -> v).toArray());
        }

        private List<Span> inOrder(int order) {
            Map<Integer, Integer> layers = layers();
            List<Span> all = new ArrayList<>(spans.values());
            all.sort((a, b) -> compare(key(order, a, layers.get(a.number)), key(order, b, layers.get(b.number))));
            return all;
        }

        private static int bits(Iterable<Span> all) {
            int bits = 0;
            for (Span s : all) bits += 1 << s.number;
            return bits;
        }

        private List<Span> at(int place) {
            List<Span> all = new ArrayList<>();
            for (Span s : spans.values()) if (s.places().get(place)) all.add(s);
            return all;
        }

        public int add(int low, int high, int weight) {
            if (bad(low, high, weight)) return -2;
            for (int n = 0; n < 30; n++) {
                if (!spans.containsKey(n)) {
                    spans.put(n, new Span(n, low, high, weight));
                    return n;
                }
            }
            return -4;
        }

        public int put(int span, int low, int high, int weight) {
            if (no(span, 30)) return -1;
            if (bad(low, high, weight)) return -2;
            return spans.put(span, new Span(span, low, high, weight)) == null ? 0 : 1;
        }

        public int drop(int span) {
            if (no(span, 30)) return -1;
            return spans.remove(span) == null ? -3 : spans.size();
        }

        public int of(int span, int what) {
            if (no(span, 30) || no(what, 8)) return -1;
            Span s = spans.get(span);
            if (s == null) return -3;
            return switch (what) {
                case 0 -> s.low;
                case 1 -> s.high;
                case 2 -> s.weight;
                case 3 -> length(s);
                case 4 -> layers().get(span);
                case 5 -> (int) spans.values().stream().filter(o -> covers(o, s)).count();
                case 6 -> (int) spans.values().stream().filter(o -> covers(s, o)).count();
                default -> (int) spans.values().stream().filter(o -> o != s && meet(o, s)).count();
            };
        }

        private static int lie(Span a, Span b) {
            int lows = Integer.signum(a.low - b.low);
            int highs = Integer.signum(a.high - b.high);
            if (!meet(a, b)) {
                int between = lows < 0 ? b.low - a.high - 1 : a.low - b.high - 1;
                return lows < 0 ? (between > 0 ? 0 : 1) : (between > 0 ? 12 : 11);
            }
            int[][] table = {{2, 3, 4}, {5, 6, 7}, {8, 9, 10}};
            return table[lows + 1][highs + 1];
        }

        public int how(int one, int other) {
            if (no(one, 30) || no(other, 30) || one == other) return -1;
            if (!spans.containsKey(one) || !spans.containsKey(other)) return -3;
            return lie(spans.get(one), spans.get(other));
        }

        public int stab(int place) { return no(place, 1000) ? -2 : bits(at(place)); }

        public int stabbed(int place, int layer, int i) {
            if (no(place, 1000)) return -2;
            if (layer < -1 || i < 0) return -1;
            List<Span> all = inOrder(0);
            all.retainAll(at(place));
            Map<Integer, Integer> layers = layers();
            all.removeIf(s -> layer >= 0 && layers.get(s.number) != layer);
            return i < all.size() ? all.get(i).number : -5;
        }

        public int meet(int low, int high) {
            if (bad(low, high, 0)) return -2;
            int bits = 0;
            for (int p = low; p <= high; p++) bits |= bits(at(p));
            return bits;
        }

        public int pairs(int what) {
            if (no(what, 4)) return -1;
            int twos = 0;
            for (Span a : spans.values()) {
                for (Span b : spans.headMap(a.number).values()) {
                    boolean is = switch (what) {
                        case 0 -> meet(a, b);
                        case 1 -> covers(a, b) || covers(b, a);
                        case 2 -> !meet(a, b);
                        default -> lie(a, b) == 1 || lie(a, b) == 11;
                    };
                    twos += is ? 1 : 0;
                }
            }
            return twos;
        }

        public int nth(int order, int i) {
            if (no(order, 5) || i < 0) return -1;
            return i < spans.size() ? inOrder(order).get(i).number : -5;
        }

        public int place(int order, int span) {
            if (no(order, 5) || no(span, 30)) return -1;
            return spans.containsKey(span) ? inOrder(order).indexOf(spans.get(span)) : -3;
        }

        public int layer(int layer) {
            if (layer < 0) return -1;
            Map<Integer, Integer> layers = layers();
            return bits(spans.values().stream().filter(s -> layers.get(s.number) == layer).toList());
        }

        private int opened() { return (int) Arrays.stream(cursors).filter(c -> c.order >= 0).count(); }

        public int open(int cursor, int order) {
            if (no(cursor, 3) || no(order, 5)) return -1;
            cursors[cursor] = new Cursor();
            cursors[cursor].order = order;
            return opened();
        }

        public int shut(int cursor) {
            if (no(cursor, 3)) return -1;
            if (cursors[cursor].order < 0) return -3;
            cursors[cursor] = new Cursor();
            return opened();
        }

        public int next(int cursor) {
            if (no(cursor, 3)) return -1;
            Cursor c = cursors[cursor];
            if (c.order < 0) return -3;
            Map<Integer, Integer> layers = layers();
            for (Span s : inOrder(c.order)) {
                List<Integer> key = key(c.order, s, layers.get(s.number));
                if (c.key == null || compare(c.key, key) < 0) {
                    c.key = key;
                    c.number = s.number;
                    return s.number;
                }
            }
            return -5;
        }

        public int remove(int cursor) {
            if (no(cursor, 3)) return -1;
            Cursor c = cursors[cursor];
            return c.order < 0 || c.key == null || spans.remove(c.number) == null ? -3 : spans.size();
        }

        private BitSet covered() {
            BitSet all = new BitSet();
            for (Span s : spans.values()) all.or(s.places());
            return all;
        }

        private static List<int[]> runs(BitSet all) {
            List<int[]> runs = new ArrayList<>();
            for (int from = all.nextSetBit(0); from >= 0;) {
                int end = all.nextClearBit(from);
                runs.add(new int[] {from, end - 1});
                from = all.nextSetBit(end);
            }
            return runs;
        }

        private List<int[]> holes() {
            BitSet all = covered();
            if (all.isEmpty()) return List.of();
            BitSet free = new BitSet();
            free.set(all.nextSetBit(0), all.length());
            free.andNot(all);
            return runs(free);
        }

        public int covered(int what) {
            return switch (what) {
                case 0 -> covered().cardinality();
                case 1 -> runs(covered()).size();
                case 2 -> holes().size();
                case 3 -> holes().stream().mapToInt(h -> h[1] - h[0] + 1).sum();
                case 4 -> holes().stream().mapToInt(h -> h[1] - h[0] + 1).max().orElse(0);
                default -> -1;
            };
        }

        public int piece(int i, int what) {
            List<int[]> all = runs(covered());
            if (no(i, all.size()) || no(what, 3)) return -1;
            if (what < 2) return all.get(i)[what];
            return Integer.bitCount(meet(all.get(i)[0], all.get(i)[1]));
        }

        public int hole(int i, int what) {
            return no(i, holes().size()) || no(what, 2) ? -1 : holes().get(i)[what];
        }

        private int height(int place, int what) {
            return at(place).stream().mapToInt(s -> what == 0 ? 1 : s.weight).sum();
        }

        public int depth(int place, int what) {
            if (no(place, 1000)) return -2;
            return no(what, 2) ? -1 : height(place, what);
        }

        public int deepest(int what) {
            if (no(what, 6)) return -1;
            int[] heights = new int[1000];
            for (Span s : spans.values()) {
                for (int p = s.low; p <= s.high; p++) heights[p] += what < 2 ? 1 : s.weight;
            }
            int best = 0;
            for (int p = 0; p < 1000; p++) {
                if (what < 4 ? heights[p] > heights[best] : heights[p] < heights[best]) best = p;
            }
            return what % 2 == 0 ? best : heights[best];
        }

        public int points(int i) {
            List<Integer> points = new ArrayList<>();
            List<Span> left = new ArrayList<>(spans.values());
            while (!left.isEmpty()) {
                int point = left.stream().mapToInt(Span::high).min().getAsInt();
                points.add(point);
                left.removeAll(at(point));
            }
            return i == -1 ? points.size() : no(i, points.size()) ? -1 : points.get(i);
        }

        public int apart(int i) {
            List<Span> taken = new ArrayList<>();
            List<Span> left = new ArrayList<>(spans.values());
            while (!left.isEmpty()) {
                Span next = Collections.min(left, (a, b) -> a.high != b.high ? a.high - b.high : a.number - b.number);
                taken.add(next);
                left.removeIf(s -> meet(s, next));
            }
            return i == -1 ? taken.size() : no(i, taken.size()) ? -1 : taken.get(i).number;
        }

        public int heaviest() {
            int[] best = new int[1001];
            for (int p = 0; p < 1000; p++) {
                best[p + 1] = best[p];
                for (Span s : spans.values()) if (s.high == p) best[p + 1] = Math.max(best[p + 1], best[s.low] + s.weight);
            }
            return best[1000];
        }

        private List<Integer> highs() {
            return new ArrayList<>(new TreeSet<>(spans.values().stream().map(Span::high).toList()));
        }

        public int group(int i, int what) {
            if (no(i, highs().size()) || no(what, 4)) return -1;
            int high = highs().get(i);
            List<Span> all = spans.values().stream().filter(s -> s.high == high).toList();
            return new int[] {high, all.size(), bits(all), all.stream().mapToInt(Span::weight).sum()}[what];
        }

        public int feed(int letter) {
            if (letter < 1 || letter > 127) return -2;
            if (tape.length() == 80) return -4;
            tape += (char) letter;
            return tape.length();
        }

        public int clear() {
            int had = tape.length();
            tape = "";
            return had;
        }

        private static int topLevel(String text, char sign) {
            int depth = 0;
            for (int k = 0; k < text.length(); k++) {
                char c = text.charAt(k);
                depth += c == '(' ? 1 : c == ')' ? -1 : 0;
                if (depth == 0 && c == sign) return k;
            }
            return -1;
        }

        private static boolean holds(String text, Span s, int layer) {
            int or = topLevel(text, '|');
            if (or >= 0) return holds(text.substring(0, or), s, layer) || holds(text.substring(or + 1), s, layer);
            int and = topLevel(text, '&');
            if (and >= 0) return holds(text.substring(0, and), s, layer) && holds(text.substring(and + 1), s, layer);
            if (text.startsWith("!")) return !holds(text.substring(1), s, layer);
            if (text.startsWith("(")) return holds(text.substring(1, text.length() - 1), s, layer);
            String[] two = text.split("[<=>]");
            int value = switch (two[0]) {
                case "low" -> s.low;
                case "high" -> s.high;
                case "weight" -> s.weight;
                case "length" -> length(s);
                case "number" -> s.number;
                default -> layer;
            };
            int sign = Integer.signum(value - Integer.parseInt(two[1]));
            return text.charAt(two[0].length()) == "<=>".charAt(sign + 1);
        }

        public int pick() {
            String text = tape;
            tape = "";
            int fault = Texts.faultOfCondition(text);
            if (fault >= 0) return -100 - fault;
            Map<Integer, Integer> layers = layers();
            return bits(spans.values().stream().filter(s -> holds(text, s, layers.get(s.number))).toList());
        }

        public int many() {
            int bits = pick();
            return bits < 0 ? bits : Integer.bitCount(bits);
        }

        public int cull() {
            int bits = pick();
            if (bits < 0) return bits;
            spans.keySet().removeIf(n -> (bits >> n & 1) == 1);
            return Integer.bitCount(bits);
        }

        private static int held(int weight) { return weight > 99 ? 99 : weight < -99 ? -99 : weight; }

        private static Span changed(Span s, String text) {
            int low = s.low;
            int high = s.high;
            int weight = s.weight;
            for (String step : text.split(";")) {
                String[] words = step.split(" ");
                String rest = words.length > 1 ? words[1] : "";
                switch (words[0]) {
                    case "shift" -> { low += Integer.parseInt(rest); high += Integer.parseInt(rest); }
                    case "grow" -> { low -= Integer.parseInt(rest); high += Integer.parseInt(rest); }
                    case "clip" -> {
                        low = Math.max(low, Integer.parseInt(rest.split("-")[0]));
                        high = Math.min(high, Integer.parseInt(rest.split("-")[1]));
                    }
                    case "mirror" -> { int was = low; low = 999 - high; high = 999 - was; }
                    case "times" -> weight = held(weight * Integer.parseInt(rest));
                    default -> weight = Math.min(99, high - low + 1);
                }
            }
            low = Math.max(low, 0);
            high = Math.min(high, 999);
            return low > high ? null : new Span(s.number, low, high, held(weight));
        }

        public int change(int set) {
            if (set < -1) return -2;
            String text = tape;
            tape = "";
            int fault = Texts.faultOfChange(text);
            if (fault >= 0) return -100 - fault;
            int count = 0;
            for (Span s : List.copyOf(spans.values())) {
                if (set != -1 && (set >> s.number & 1) == 0) continue;
                count++;
                Span then = changed(s, text);
                if (then == null) spans.remove(s.number);
                else spans.put(s.number, then);
            }
            return count;
        }

        public int load() {
            String text = tape;
            tape = "";
            int fault = Texts.faultOfLoad(text);
            if (fault >= 0) return -100 - fault;
            int came = 0;
            for (String part : text.split(";")) {
                String[] two = part.split(":");
                String[] ends = two[0].split("-");
                int weight = two.length > 1 ? Integer.parseInt(two[1]) : 1;
                if (add(Integer.parseInt(ends[0]), Integer.parseInt(ends[1]), weight) >= 0) came++;
            }
            return came;
        }

        public int spell(int order) {
            if (no(order, 5)) return -1;
            List<String> parts = new ArrayList<>();
            for (Span s : inOrder(order)) parts.add(s.low + "-" + s.high + (s.weight == 1 ? "" : ":" + s.weight));
            paper = String.join(";", parts);
            return paper.length();
        }

        public int paper(int i) { return no(i, paper.length()) ? -1 : paper.charAt(i); }

        public int told(int what) {
            return switch (what) {
                case 0 -> spans.size();
                case 1 -> opened();
                case 2 -> new TreeSet<>(layers().values()).size();
                case 3 -> spans.values().stream().mapToInt(Span::weight).sum();
                case 4 -> spans.values().stream().mapToInt(Model::length).sum();
                case 5 -> tape.length();
                case 6 -> paper.length();
                case 7 -> deepest(1);
                case 8 -> highs().size();
                default -> -1;
            };
        }

        public int list(int list, int n) {
            if (no(list, 4)) return -1;
            if (n > 40) return -2;
            if (n < 0) return -14;
            lists[list] = new int[n];
            return 1;
        }

        public int set(int list, int i, int v) {
            if (no(list, 4)) return -1;
            if (lists[list] == null) return -11;
            if (no(i, lists[list].length)) return -13;
            lists[list][i] = v;
            return 1;
        }

        public int get(int list, int i) {
            boolean isNone = no(list, 4) || lists[list] == null || no(i, lists[list].length);
            return isNone ? -2000000000 : lists[list][i];
        }

        public int lay(int list, int i, int order) {
            if (no(list, 4) || no(order, 5)) return -1;
            if (lists[list] == null) return -11;
            int at = i;
            for (Span s : inOrder(order)) {
                if (no(at, lists[list].length)) return -13;
                lists[list][at++] = s.number;
            }
            return at - i;
        }

        public int judge(int list, int i, int order) {
            if (no(list, 4) || no(order, 5)) return -1;
            if (lists[list] == null) return -11;
            int seen = 0;
            for (Span s : inOrder(order)) {
                if (no(i + seen, lists[list].length)) return 100 + seen;
                if (lists[list][i + seen] != s.number) return seen;
                seen++;
            }
            return -5;
        }

        public int image() {
            image = new TreeMap<>(spans);
            return spans.size();
        }

        public int undo() {
            if (image == null) return -3;
            spans = new TreeMap<>(image);
            for (int k = 0; k < 3; k++) cursors[k] = new Cursor();
            return spans.size();
        }
    }
}
