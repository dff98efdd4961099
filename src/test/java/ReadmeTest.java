import java.lang.reflect.Method;
import java.nio.file.Files;
import java.nio.file.Path;
import java.util.regex.Matcher;
import java.util.regex.Pattern;

/** What README.md shows of the class: its calls answer what stands behind them, and it names the whole face. */
public final class ReadmeTest {
    private static final Pattern BLOCK = Pattern.compile("(?s)```java\n(.*?)```");
    private static final Pattern CALL = Pattern.compile("x\\.(\\w+\\([^)]*\\)); +// (-?\\d+)(?::.*)?");
    private static final Pattern TYPE = Pattern.compile("type\\(x, \"(.*)\"\\);");

    public static void main(String[] args) throws Exception {
        Path root = Path.of(args.length > 0 ? args[0] : ".");
        String readme = Files.readString(root.resolve("README.md"));
        Runs runs = new Runs();
        runs.run("README.md", rowsOf(readme));
        boolean isWhole = namesAll(readme);
        runs.end();
        if (!isWhole || runs.rows() == 0) System.exit(1);
    }

    /** Its calls go on with one object; only the helper that feeds a text has no rows. */
    private static String rowsOf(String readme) {
        StringBuilder rows = new StringBuilder();
        Matcher block = BLOCK.matcher(readme);
        while (block.find()) {
            if (block.group(1).startsWith("static void type(")) continue;
            for (String line : block.group(1).split("\n")) rows.append(rowOf(line)).append('\n');
        }
        return rows.toString();
    }

    private static String rowOf(String line) {
        Matcher call = CALL.matcher(line);
        Matcher type = TYPE.matcher(line);
        if (call.matches()) return call.group(1) + " " + call.group(2);
        if (type.matches()) return "type " + type.group(1);
        if (line.equals("SpanLayers x = new SpanLayers();")) return "new";
        throw new IllegalStateException("README.md: neither a call with its answer nor a text: " + line);
    }

    private static boolean namesAll(String readme) {
        boolean isWhole = true;
        for (Method one : SpanLayers.class.getMethods()) {
            boolean isOfFace = one.getDeclaringClass() == SpanLayers.class;
            if (isOfFace && !Pattern.compile("`" + one.getName() + "`|x\\." + one.getName() + "\\(").matcher(readme).find()) {
                System.out.println("README.md does not name " + one.getName());
                isWhole = false;
            }
        }
        return isWhole;
    }
}
