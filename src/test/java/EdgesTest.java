import java.io.IOException;
import java.nio.file.Files;
import java.nio.file.Path;
import java.util.ArrayList;
import java.util.List;
import java.util.Map;
import java.util.TreeMap;
import java.util.regex.Matcher;
import java.util.regex.Pattern;
import java.util.stream.Stream;

/**
 * The document, clause by clause. A file of src/test/edges has blocks: a head "== section: clause", which quotes
 * the document, and rows as Runs reads them; "given name" begins rows that "new name" puts ahead of others.
 * A clause that the document hasn't, one without rows, and words of the document that no clause quotes are wrong.
 */
public final class EdgesTest {
    private static final Pattern HEAD = Pattern.compile("== (\\w+): (.+)");
    private static final Runs RUNS = new Runs();
    private static final Map<String, StringBuilder> SECTIONS = new TreeMap<>();
    private static int clauses = 0;
    private static int wrong = 0;

    public static void main(String[] args) throws Exception {
        Path root = Path.of(args.length > 0 ? args[0] : ".");
        readSections(Files.readString(root.resolve("../shared/DOC.md")));
        for (Path file : files(root.resolve("src/test/edges"))) runFile(file);
        for (Map.Entry<String, StringBuilder> one : SECTIONS.entrySet()) checkQuoted(one.getKey(), one.getValue().toString());
        System.out.println(clauses + " clauses of the document" + (wrong > 0 ? ", " + wrong + " faults of their quoting" : ""));
        RUNS.end();
        if (wrong != 0) System.exit(1);
    }

    private static List<Path> files(Path folder) throws IOException {
        try (Stream<Path> all = Files.list(folder)) {
            return all.filter(f -> f.toString().endsWith(".txt")).sorted().toList();
        }
    }

    /** Terms, and each promise by its number; without what is no sentence. */
    private static void readSections(String doc) {
        Matcher m = Pattern.compile("(?s)## (Terms|Promise (\\d+): \\w[^\n]*)\n(.*?)(?=\n## |\\z)").matcher(doc);
        while (m.find()) {
            String name = m.group(2) == null ? m.group(1) : m.group(2);
            String text = m.group(3).replaceAll("```\\w*", " ").replaceAll("`[^`]*`:", " ");
            SECTIONS.put(name, new StringBuilder(folded(text)));
        }
        due(SECTIONS.size() == 44, "the document has its terms and 43 promises: " + SECTIONS.keySet());
    }

    private static String folded(String text) {
        return text.replaceAll("\\s+", " ").strip();
    }

    private static void due(boolean isSo, String what) {
        if (!isSo) {
            wrong++;
            System.out.println("not so: " + what);
        }
    }

    private static void runFile(Path file) throws IOException {
        Map<String, String> given = new TreeMap<>();
        String head = "";
        List<String> rows = new ArrayList<>();
        for (String row : Files.readAllLines(file)) {
            if (row.startsWith("== ") || row.startsWith("given ")) {
                endBlock(head, rows, given);
                head = row;
                rows.clear();
            } else {
                rows.add(row);
            }
        }
        endBlock(head, rows, given);
    }

    private static void endBlock(String head, List<String> rows, Map<String, String> given) {
        if (head.startsWith("given ")) {
            given.put(head.substring(6), String.join("\n", rows));
        } else if (!head.isEmpty()) {
            runClause(head, String.join("\n", rows), given);
        }
    }

    private static void runClause(String head, String script, Map<String, String> given) {
        Matcher m = HEAD.matcher(head);
        if (!m.matches()) throw new IllegalStateException("no head: " + head);
        quote(m.group(1), folded(m.group(2)));
        String whole = script;
        for (Map.Entry<String, String> one : given.entrySet()) {
            whole = whole.replaceAll("(?m)^new " + one.getKey() + "$", Matcher.quoteReplacement("new\n" + one.getValue()));
        }
        int before = RUNS.rows();
        RUNS.run(head, whole);
        due(RUNS.rows() > before, "rows of " + head);
        clauses++;
    }

    /** What is quoted becomes signs that no clause has, so that each place of the document is quoted once. */
    private static void quote(String section, String clause) {
        StringBuilder text = SECTIONS.getOrDefault(section, new StringBuilder());
        int at = text.indexOf(clause);
        due(at >= 0, "the document has, of " + section + ": " + clause);
        for (int k = at; at >= 0 && k < at + clause.length(); k++) text.setCharAt(k, '_');
    }

    private static void checkQuoted(String section, String left) {
        for (String words : left.split("_+")) {
            boolean isMark = words.strip().matches("(==== \\d)?");
            due(isMark, "a clause for, of " + section + ": " + words.strip());
        }
    }
}
