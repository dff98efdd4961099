import java.lang.reflect.Constructor;
import java.lang.reflect.Field;
import java.lang.reflect.Method;
import java.lang.reflect.Modifier;
import java.nio.file.Files;
import java.nio.file.Path;
import java.util.ArrayList;
import java.util.Arrays;
import java.util.List;
import java.util.Map;
import java.util.Set;
import java.util.TreeMap;
import java.util.TreeSet;
import java.util.regex.Matcher;
import java.util.regex.Pattern;

/** The rules of LANGUAGE.md that can be seen from the source and from the compiled classes. */
public final class LanguageTest {
    private static final String[] FORBIDDEN = {
        "\\bthrow\\b", "\\btry\\b", "\\bcatch\\b", "\\bfinally\\b", "\\bsynchronized\\b", "\\bassert\\b", "\\bimport\\b",
        "\\bpackage\\b", "->", "::", "\\bprotected\\b", "\\bvolatile\\b", "\\btransient\\b", "\\bnative\\b", "\\bdouble\\b",
        "\\bfloat\\b", "\\bSystem\\b", "\\bThread\\b", "Exact\\b", "\\bObject\\b", "\\[\\]\\[\\]", "@", "\\bvar\\b",
        "\\bhashCode\\b", "\\btoString\\b", "\\bequals\\b", "\\bstatic\\s*\\{",
    };
    private static int wrong = 0;

    public static void main(String[] args) throws Exception {
        Path root = Path.of(args.length > 0 ? args[0] : ".");
        String source = Files.readString(root.resolve("src/main/java/SpanLayers.java"));
        String bare = source.replaceAll("(?s)/\\*.*?\\*/", " ").replaceAll("//[^\n]*", " ")
            .replaceAll("\"[^\"]*\"", "\"\"").replaceAll("'[^']+'", "' '");
        for (String one : FORBIDDEN) due(!Pattern.compile(one).matcher(bare).find(), "no " + one);
        due(source.chars().allMatch(c -> c == '\n' || c >= 32 && c < 127), "plain signs alone");
        checkLibrary(bare);
        checkMethods(bare.split("\n"));
        checkFace(Files.readString(root.resolve("../shared/DOC.md")));
        checkClasses();
        System.out.println(wrong == 0 ? "all rules are kept" : wrong + " rules are not kept");
        if (wrong != 0) System.exit(1);
    }

    private static void due(boolean isKept, String rule) {
        if (!isKept) {
            wrong++;
            System.out.println("not kept: " + rule);
        }
    }

    private static void checkLibrary(String bare) {
        Matcher m = Pattern.compile("\\b(Math|Integer|Long|Arrays|String|List|StringBuilder)\\.(\\w+)").matcher(bare);
        while (m.find()) {
            boolean isListed = Set.of("max", "min", "abs", "bitCount", "compare").contains(m.group(2));
            due(isListed, "the library's " + m.group());
        }
        // Whatever a call makes counts; here all is made as the object is.
        Matcher made = Pattern.compile("^ {8,}(?!final |private final ).*\\bnew (\\w+)", Pattern.MULTILINE).matcher(bare);
        while (made.find()) due(Set.of("Cursor", "Row", "Span").contains(made.group(1)), "made by a call: " + made.group());
    }

    private static void checkMethods(String[] lines) {
        Map<String, String> bodies = new TreeMap<>();
        Pattern head = Pattern.compile("( {4}| {8})(?:\\w[\\w\\[\\] ]* )?(\\w+)\\(.*\\) \\{");
        for (int start = 0; start < lines.length; start++) {
            Matcher m = head.matcher(lines[start]);
            if (!m.matches()) continue;
            int last = start;
            while (last < lines.length && !lines[last].equals(m.group(1) + "}")) last++;
            due(last - start < 60, "sixty lines: " + lines[start].strip());
            bodies.merge(m.group(2), String.join(" ", Arrays.copyOfRange(lines, start + 1, last)), String::concat);
        }
        due(bodies.size() > 100, "methods are found");
        for (String name : bodies.keySet()) checkDepth(name, bodies, new ArrayList<>());
    }

    /** Methods of one name are taken for one, and a call of what is open already for a recursion. */
    private static void checkDepth(String name, Map<String, String> bodies, List<String> open) {
        open.add(name);
        due(open.size() <= 8, "calls eight deep: " + open);
        Matcher call = Pattern.compile("\\b(\\w+)\\(").matcher(bodies.get(name));
        Set<String> called = new TreeSet<>();
        while (call.find()) called.add(call.group(1));
        for (String one : called) {
            if (bodies.containsKey(one) && !open.contains(one) && open.size() <= 8) checkDepth(one, bodies, open);
        }
        open.remove(open.size() - 1);
    }

    private static void checkFace(String doc) {
        Set<String> face = new TreeSet<>();
        Matcher m = Pattern.compile("public int (\\w+)\\(([^)]*)\\);").matcher(doc);
        while (m.find()) face.add(m.group(1) + (m.group(2).isBlank() ? 0 : m.group(2).split(",").length));
        due(face.size() == 42, "42 methods in the document");
        Set<String> found = new TreeSet<>();
        for (Method one : SpanLayers.class.getDeclaredMethods()) {
            if (Modifier.isPrivate(one.getModifiers())) continue;
            due(Modifier.isPublic(one.getModifiers()) && !Modifier.isStatic(one.getModifiers()), "public: " + one);
            due(one.getReturnType() == int.class, "answers an int: " + one);
            for (Class<?> type : one.getParameterTypes()) due(type == int.class, "takes ints: " + one);
            found.add(one.getName() + one.getParameterCount());
        }
        due(found.equals(face), "the face's methods: " + found);
        due(Modifier.isPublic(SpanLayers.class.getModifiers()) && Modifier.isFinal(SpanLayers.class.getModifiers()), "public, final");
        Constructor<?>[] constructors = SpanLayers.class.getDeclaredConstructors();
        due(constructors.length == 1 && constructors[0].getParameterCount() == 0, "one constructor");
        Set<String> fields = new TreeSet<>();
        for (Field one : SpanLayers.class.getDeclaredFields()) {
            if (!Modifier.isPrivate(one.getModifiers())) fields.add(one.getName());
        }
        due(fields.equals(Set.of("NONE", "BAD", "STATE", "FULL")), "the face's constants: " + fields);
    }

    private static void checkClasses() {
        Set<String> face = new TreeSet<>();
        for (Method one : SpanLayers.class.getMethods()) {
            if (one.getDeclaringClass() == SpanLayers.class) face.add(one.getName());
        }
        List<Class<?>> all = new ArrayList<>(List.of(SpanLayers.class.getDeclaredClasses()));
        due(all.size() < 12, "twelve classes");
        all.add(SpanLayers.class);
        for (Class<?> one : all) {
            due(one == SpanLayers.class || Modifier.isStatic(one.getModifiers()), "static: " + one);
            due(one.getDeclaredClasses().length == 0 || one == SpanLayers.class, "no class deeper inside: " + one);
            int fields = 0;
            for (Field field : one.getDeclaredFields()) {
                boolean isStatic = Modifier.isStatic(field.getModifiers());
                fields += isStatic ? 0 : 1;
                due(!isStatic || Modifier.isFinal(field.getModifiers())
                    && (field.getType() == int.class || field.getType() == String.class), "a constant: " + field);
            }
            due(fields <= 20, "twenty fields: " + one);
            for (Method method : one.getDeclaredMethods()) {
                due(method.getParameterCount() <= 7, "seven parameters: " + method);
                boolean isOther = one != SpanLayers.class || Modifier.isPrivate(method.getModifiers());
                due(!isOther || !face.contains(method.getName()), "a name of the face: " + method);
            }
        }
    }
}
