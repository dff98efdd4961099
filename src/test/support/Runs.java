import java.lang.reflect.InvocationTargetException;
import java.lang.reflect.Method;
import java.util.ArrayList;
import java.util.List;
import java.util.Map;
import java.util.TreeMap;
import java.util.regex.Matcher;
import java.util.regex.Pattern;

/**
 * Runs rows of calls and prints every answer that is not the one that is due. The rows:
 * <pre>
 * call(numbers) answer          a call
 * still row                     any row that leaves everything as it was
 * "text" call(numbers) answer   the text's bytes are fed ahead of the call
 * type text                     the text's bytes are fed
 * fill n [low high weight]      n spans are added, all with these; else the k-th is place k, of weight 1
 * paper "text"                  the paper holds just this
 * NAME number                   a constant
 * new                           the next rows are for a new object
 * # ..                          a remark
 * </pre>
 */
final class Runs {
    private static final int MOST_CALLS = 512;
    private static final Pattern CALL = Pattern.compile("(\\w+)\\(([^)]*)\\) (-?\\d+)");
    private static final Pattern TEXT_CALL = Pattern.compile("\"(.*)\" (\\w+\\([^)\"]*\\) -?\\d+)");
    private static final Pattern PAPER = Pattern.compile("paper \"(.*)\"");
    private static final Pattern FILL = Pattern.compile("fill (\\d+)(?: (\\d+) (\\d+) (-?\\d+))?");
    private static final Pattern CONSTANT = Pattern.compile("([A-Z]+) (-?\\d+)");
    private static final Map<String, Method> METHODS = methods();

    private record Call(String name, Object[] values) { }

    private int wrong;
    private int rows;
    private String label = "";
    private SpanLayers object;
    private List<Call> calls = new ArrayList<>();

    int wrong() { return wrong; }

    int rows() { return rows; }

    private static Map<String, Method> methods() {
        Map<String, Method> all = new TreeMap<>();
        for (Method m : SpanLayers.class.getMethods()) {
            if (m.getDeclaringClass() == SpanLayers.class) all.put(m.getName(), m);
        }
        return all;
    }

    /** All rows of a script, on an object of their own. */
    void run(String name, String script) {
        label = name;
        begin();
        for (String row : script.split("\n")) one(row);
    }

    private void begin() {
        object = new SpanLayers();
        calls = new ArrayList<>();
    }

    private void one(String row) {
        Matcher text = TEXT_CALL.matcher(row.strip());
        Matcher paper = PAPER.matcher(row.strip());
        Matcher fill = FILL.matcher(row.strip());
        Matcher constant = CONSTANT.matcher(row.strip());
        if (row.isBlank() || row.startsWith("#")) return;
        if (row.strip().equals("new")) begin();
        else if (row.startsWith("type ")) type(row.substring(5));
        else if (text.matches()) {
            type(text.group(1));
            due(text.group(2));
        } else if (paper.matches()) checkPaper(paper.group(1));
        else if (fill.matches()) fill(fill);
        else if (constant.matches()) checkConstant(row, constant.group(1), Integer.parseInt(constant.group(2)));
        else if (row.startsWith("still ")) still(row.substring(6));
        else due(row.strip());
    }

    private void type(String text) {
        int had = call("told", 5);
        for (int k = 0; k < text.length(); k++) {
            report("feed of \"" + text + "\"", call("feed", (int) text.charAt(k)), had + k + 1);
        }
    }

    private void fill(Matcher m) {
        for (int k = 0; k < Integer.parseInt(m.group(1)); k++) {
            int low = m.group(2) == null ? k : Integer.parseInt(m.group(2));
            int high = m.group(3) == null ? k : Integer.parseInt(m.group(3));
            int weight = m.group(4) == null ? 1 : Integer.parseInt(m.group(4));
            report("add, " + m.group(), call("add", low, high, weight), k);
        }
    }

    private void checkPaper(String text) {
        report("told(6) of paper " + text, call("told", 6), text.length());
        for (int k = 0; k < text.length(); k++) {
            report("paper(" + k + ") of " + text, call("paper", k), text.charAt(k));
        }
        report("paper(" + text.length() + ") of " + text, call("paper", text.length()), SpanLayers.NONE);
    }

    private void checkConstant(String row, String name, int want) {
        try {
            report(row, SpanLayers.class.getField(name).getInt(null), want);
        } catch (ReflectiveOperationException e) {
            throw new IllegalStateException("no constant: " + name, e);
        }
    }

    private void due(String row) {
        Matcher m = CALL.matcher(row);
        if (!m.matches()) throw new IllegalStateException(label + ": no row: " + row);
        String[] words = m.group(2).isBlank() ? new String[0] : m.group(2).split(",");
        Object[] values = new Object[words.length];
        for (int k = 0; k < words.length; k++) values[k] = Integer.parseInt(words[k].strip());
        report(row, call(m.group(1), values), Integer.parseInt(m.group(3)));
    }

    /** Done on an object with the same calls behind it; what can be seen of that then is what could be seen without. */
    private void still(String row) {
        SpanLayers kept = object;
        List<Call> ahead = List.copyOf(calls);
        List<Integer> before = Probe.of(again(), calls.size());
        object = again();
        one(row);
        if (!Probe.of(object, calls.size()).equals(before)) {
            wrong++;
            System.out.println(label + ": " + row + " changed something");
        }
        object = kept;
        calls = new ArrayList<>(ahead);
    }

    private SpanLayers again() {
        SpanLayers other = new SpanLayers();
        for (Call one : calls) answer(other, one);
        return other;
    }

    private int call(String name, Object... values) {
        Call one = new Call(name, values);
        calls.add(one);
        if (calls.size() > MOST_CALLS) throw new IllegalStateException(label + ": more than 512 calls");
        return answer(object, one);
    }

    private static int answer(SpanLayers x, Call one) {
        Method method = METHODS.get(one.name);
        if (method == null) throw new IllegalStateException("no method: " + one.name);
        try {
            return (Integer) method.invoke(x, one.values);
        } catch (InvocationTargetException e) {
            throw new IllegalStateException(one.name + " threw", e.getCause());
        } catch (IllegalAccessException e) {
            throw new IllegalStateException(e);
        }
    }

    private void report(String row, int got, int want) {
        rows++;
        if (got != want) {
            wrong++;
            System.out.println(label + ": " + row + " answered " + got + ", due is " + want);
        }
    }

    /** Ends the program: with exit code 1, if an answer was not the one that is due. */
    void end() {
        System.out.println(wrong == 0 ? rows + " answers are as due" : wrong + " answers are not as due");
        if (wrong != 0) System.exit(1);
    }
}
