import java.lang.reflect.Method;

/** Each promise by hand, in rows as Runs reads them. */
public final class PromisesTest {
    private static final Runs RUNS = new Runs();

    public static void main(String[] args) throws Exception {
        newObject();
        spans();
        relations();
        orders();
        cursors();
        coverage();
        depths();
        choices();
        groups();
        tape();
        conditions();
        changes();
        loads();
        papers();
        told();
        lists();
        images();
        extremes();
        RUNS.end();
    }

    private static void run(int promise, String script) {
        RUNS.run("promise " + promise, script);
    }

    private static void newObject() {
        run(1, """
            told(0) 0
            told(1) 0
            told(2) 0
            told(3) 0
            told(4) 0
            told(5) 0
            told(6) 0
            told(7) 0
            told(8) 0
            of(0, 0) -3
            of(29, 0) -3
            stab(0) 0
            meet(0, 999) 0
            layer(0) 0
            pairs(0) 0
            pairs(2) 0
            nth(0, 0) -5
            covered(0) 0
            covered(4) 0
            piece(0, 0) -1
            hole(0, 0) -1
            depth(0, 0) 0
            deepest(0) 0
            deepest(5) 0
            points(-1) 0
            points(0) -1
            apart(-1) 0
            apart(0) -1
            heaviest() 0
            group(0, 0) -1
            next(0) -3
            shut(2) -3
            paper(0) -1
            get(0, 0) -2000000000
            set(0, 0, 1) -11
            undo() -3
            clear() 0
            spell(4) 0
            """);
    }

    private static void spans() {
        run(2, """
            add(0, 0, -99) 0
            add(999, 999, 99) 1
            add(0, 999, 0) 2
            add(-1, 5, 0) -2
            add(1000, 1000, 0) -2
            add(5, -1, 0) -2
            add(5, 1000, 0) -2
            add(5, 5, -100) -2
            add(5, 5, 100) -2
            add(6, 5, 0) -2
            told(0) 3
            of(0, 2) -99
            of(1, 0) 999
            of(2, 1) 999
            drop(1) 2
            add(7, 8, 9) 1
            of(1, 0) 7
            of(1, 1) 8
            of(1, 2) 9
            add(1, 1, 1) 3
            """);
        StringBuilder full = new StringBuilder();
        for (int k = 0; k < 30; k++) full.append("add(").append(k).append(", 99, 1) ").append(k).append('\n');
        run(2, full + """
            add(0, 0, 0) -4
            add(5, 4, 0) -2
            told(0) 30
            stab(50) 1073741823
            drop(17) 29
            add(3, 4, 5) 17
            add(3, 4, 5) -4
            """);
        run(3, """
            put(29, 3, 9, 5) 0
            told(0) 1
            of(29, 0) 3
            of(29, 1) 9
            of(29, 2) 5
            put(29, 0, 999, -99) 1
            told(0) 1
            of(29, 3) 1000
            of(29, 2) -99
            put(30, 3, 9, 5) -1
            put(-1, 3, 9, 5) -1
            put(30, 9, 3, 5) -1
            put(0, 9, 3, 5) -2
            put(0, -1, 3, 5) -2
            put(0, 0, 1000, 5) -2
            put(0, 0, 0, 100) -2
            put(0, 0, 0, -100) -2
            put(29, 5, 4, 0) -2
            of(29, 3) 1000
            told(0) 1
            add(1, 1, 1) 0
            put(1, 1, 1, 1) 0
            add(1, 1, 1) 2
            """);
        run(4, """
            add(1, 5, 1) 0
            add(2, 4, 1) 1
            of(1, 4) 1
            drop(-1) -1
            drop(30) -1
            drop(2) -3
            drop(0) 1
            drop(0) -3
            of(1, 4) 0
            of(0, 0) -3
            drop(1) 0
            told(0) 0
            """);
        run(5, """
            add(10, 19, -7) 0
            add(10, 19, 4) 1
            add(12, 15, 1) 2
            add(15, 25, 1) 3
            add(20, 20, 1) 4
            add(0, 9, 1) 5
            of(0, 0) 10
            of(0, 1) 19
            of(0, 2) -7
            of(0, 3) 10
            of(0, 4) 0
            of(0, 5) 0
            of(0, 6) 2
            of(0, 7) 3
            of(1, 4) 1
            of(1, 5) 1
            of(1, 6) 1
            of(1, 7) 3
            of(2, 3) 4
            of(2, 4) 2
            of(2, 5) 2
            of(2, 6) 0
            of(2, 7) 3
            of(3, 4) 0
            of(3, 6) 1
            of(3, 7) 4
            of(4, 3) 1
            of(4, 4) 1
            of(4, 5) 1
            of(4, 7) 1
            of(5, 7) 0
            of(6, 0) -3
            of(6, 8) -1
            of(0, 8) -1
            of(0, -1) -1
            of(30, 0) -1
            of(-1, 0) -1
            # a chain of layers that is longer than the cover counts of its links are deep
            put(0, 0, 99, 1) 1
            put(1, 0, 50, 1) 1
            put(2, 40, 99, 1) 1
            put(3, 45, 50, 1) 1
            of(3, 4) 2
            of(3, 5) 3
            # one of number 0 is counted as any other
            put(0, 46, 47, 1) 1
            of(3, 6) 1
            of(0, 5) 3
            of(1, 6) 4
            """);
    }

    private static void relations() {
        run(6, """
            put(0, 10, 20, 1) 0
            put(1, 22, 30, 1) 0
            put(2, 21, 30, 1) 0
            put(3, 20, 30, 1) 0
            put(4, 15, 20, 1) 0
            put(5, 15, 18, 1) 0
            put(6, 10, 25, 1) 0
            put(7, 10, 20, 1) 0
            put(8, 10, 15, 1) 0
            put(9, 5, 25, 1) 0
            put(10, 5, 20, 1) 0
            put(11, 5, 10, 1) 0
            put(12, 5, 9, 1) 0
            put(13, 5, 8, 1) 0
            how(0, 1) 0
            how(0, 2) 1
            how(0, 3) 2
            how(0, 4) 3
            how(0, 5) 4
            how(0, 6) 5
            how(0, 7) 6
            how(7, 0) 6
            how(0, 8) 7
            how(0, 9) 8
            how(0, 10) 9
            how(0, 11) 10
            how(0, 12) 11
            how(0, 13) 12
            how(1, 0) 12
            how(2, 0) 11
            how(0, 0) -1
            how(29, 29) -1
            how(0, 30) -1
            how(-1, 0) -1
            how(0, 29) -3
            how(29, 0) -3
            how(29, 30) -1
            """);
        run(7, """
            put(0, 10, 20, 1) 0
            put(3, 20, 30, 1) 0
            put(29, 0, 999, 1) 0
            stab(9) 536870912
            stab(10) 536870913
            stab(20) 536870921
            stab(21) 536870920
            stab(0) 536870912
            stab(999) 536870912
            stab(-1) -2
            stab(1000) -2
            """);
        run(8, """
            put(0, 10, 20, 1) 0
            put(1, 10, 20, 1) 0
            put(2, 5, 30, 1) 0
            put(3, 10, 12, 1) 0
            put(4, 40, 50, 1) 0
            stabbed(10, -1, 0) 2
            stabbed(10, -1, 1) 3
            stabbed(10, -1, 2) 0
            stabbed(10, -1, 3) 1
            stabbed(10, -1, 4) -5
            stabbed(10, 0, 0) 2
            stabbed(10, 0, 1) -5
            stabbed(10, 1, 0) 0
            stabbed(10, 2, 0) 1
            stabbed(10, 3, 0) 3
            stabbed(13, 3, 0) -5
            stabbed(10, 4, 0) -5
            stabbed(31, -1, 0) -5
            stabbed(0, -1, 0) -5
            stabbed(999, -1, 0) -5
            stabbed(-1, -2, 0) -2
            stabbed(1000, -1, -1) -2
            stabbed(10, -2, 0) -1
            stabbed(10, -1, -1) -1
            """);
        run(9, """
            put(0, 10, 20, 1) 0
            put(1, 21, 30, 1) 0
            meet(0, 9) 0
            meet(0, 10) 1
            meet(20, 20) 1
            meet(20, 21) 3
            meet(30, 999) 2
            meet(31, 999) 0
            meet(0, 999) 3
            meet(-1, 5) -2
            meet(5, 4) -2
            meet(0, 1000) -2
            meet(1000, 1000) -2
            meet(5, -1) -2
            """);
        run(10, """
            add(0, 10, 1) 0
            add(0, 10, 1) 1
            add(2, 5, 1) 2
            add(11, 20, 1) 3
            add(20, 30, 1) 4
            add(40, 41, 1) 5
            pairs(0) 4
            pairs(1) 3
            pairs(2) 11
            pairs(3) 2
            pairs(4) -1
            pairs(-1) -1
            put(6, 42, 42, 1) 0
            put(7, 39, 39, 1) 0
            pairs(3) 4
            """);
    }

    private static void orders() {
        String six = """
            add(5, 9, 3) 0
            add(5, 9, 3) 1
            add(5, 7, 3) 2
            add(0, 9, -4) 3
            add(8, 12, 3) 4
            add(20, 24, 50) 5
            """;
        // layers: 3 covers 0, 1, 2; 0 covers 1, 2; 1 covers 2; 4 and 5 stand alone.
        run(11, six + """
            nth(0, 0) 3
            nth(0, 1) 2
            nth(0, 2) 0
            nth(0, 3) 1
            nth(0, 4) 4
            nth(0, 5) 5
            nth(0, 6) -5
            nth(1, 0) 5
            nth(1, 1) 4
            nth(1, 2) 3
            nth(1, 3) 0
            nth(1, 4) 1
            nth(1, 5) 2
            nth(2, 0) 3
            nth(2, 1) 0
            nth(2, 2) 1
            nth(2, 3) 4
            nth(2, 4) 5
            nth(2, 5) 2
            nth(3, 0) 5
            nth(3, 1) 0
            nth(3, 2) 1
            nth(3, 3) 4
            nth(3, 4) 2
            nth(3, 5) 3
            nth(4, 0) 3
            nth(4, 1) 4
            nth(4, 2) 5
            nth(4, 3) 0
            nth(4, 4) 1
            nth(4, 5) 2
            nth(4, 6) -5
            nth(5, 0) -1
            nth(-1, 0) -1
            nth(0, -1) -1
            """);
        run(12, six + """
            place(0, 3) 0
            place(0, 2) 1
            place(0, 1) 3
            place(1, 5) 0
            place(1, 2) 5
            place(2, 4) 3
            place(3, 3) 5
            place(3, 4) 3
            place(4, 4) 1
            place(4, 2) 5
            place(4, 6) -3
            place(5, 0) -1
            place(-1, 0) -1
            place(0, 30) -1
            place(0, -1) -1
            place(5, 6) -1
            """);
        run(13, six + """
            layer(0) 56
            layer(1) 1
            layer(2) 2
            layer(3) 4
            layer(4) 0
            layer(2000000000) 0
            layer(-1) -1
            drop(3) 5
            layer(0) 49
            """);
    }

    private static void cursors() {
        run(14, """
            open(0, 0) 1
            open(2, 4) 2
            open(1, 1) 3
            open(1, 3) 3
            open(3, 0) -1
            open(-1, 0) -1
            open(0, 5) -1
            open(0, -1) -1
            told(1) 3
            add(1, 1, 1) 0
            next(0) 0
            next(0) -5
            # opened anew, nothing was told
            open(0, 0) 3
            next(0) 0
            # what is answered NONE leaves it as it was
            open(0, 5) -1
            next(0) -5
            """);
        run(15, """
            open(0, 0) 1
            open(1, 0) 2
            shut(0) 1
            shut(0) -3
            shut(2) -3
            shut(3) -1
            shut(-1) -1
            next(0) -3
            shut(1) 0
            told(1) 0
            """);
        run(16, """
            add(5, 9, 3) 0
            add(1, 2, 3) 1
            add(7, 7, 3) 2
            next(0) -3
            next(3) -1
            next(-1) -1
            open(0, 0) 1
            open(1, 0) 2
            next(0) 1
            next(0) 0
            # one that comes behind what was told is told, one that comes ahead is not
            add(6, 6, 1) 3
            add(0, 0, 1) 4
            next(0) 3
            next(0) 2
            next(0) -5
            next(0) -5
            # what was told last stays: one more behind it is found
            add(8, 8, 1) 5
            next(0) 5
            # the place is that of what was told as it was then
            put(5, 2, 2, 1) 1
            next(0) -5
            put(4, 9, 9, 1) 1
            next(0) 4
            # other cursors go on by themselves
            next(1) 1
            next(1) 5
            # a span that moves behind what was told of it is told again
            put(5, 300, 300, 1) 1
            next(1) 0
            next(1) 3
            next(1) 2
            next(1) 4
            next(1) 5
            next(1) -5
            """);
        // alike in all but the number, told by numbers
        run(16, """
            add(5, 9, 3) 0
            add(5, 9, 3) 1
            add(5, 9, 3) 2
            open(0, 3) 1
            next(0) 0
            drop(1) 2
            next(0) 2
            put(1, 5, 9, 3) 0
            next(0) -5
            """);
        // the layer is that of the time when it was told
        run(16, """
            add(0, 9, 1) 0
            add(2, 3, 1) 1
            add(5, 6, 1) 2
            open(0, 4) 1
            next(0) 0
            next(0) 1
            drop(0) 2
            next(0) -5
            put(0, 0, 9, 1) 0
            next(0) 2
            """);
        run(17, """
            add(5, 9, 3) 0
            add(1, 2, 3) 1
            remove(0) -3
            remove(3) -1
            remove(-1) -1
            open(0, 0) 1
            open(1, 0) 2
            remove(0) -3
            next(0) 1
            next(1) 1
            remove(0) 1
            remove(0) -3
            # the other one told it as well
            remove(1) -3
            next(1) 0
            next(0) 0
            # the number is in again, so it is what goes
            put(1, 50, 60, 1) 0
            drop(0) 1
            remove(0) -3
            put(0, 70, 80, 1) 0
            remove(0) 1
            of(1, 0) 50
            shut(1) 1
            remove(1) -3
            open(1, 0) 2
            remove(1) -3
            """);
    }

    private static void coverage() {
        String five = """
            add(10, 19, 1) 0
            add(20, 24, 1) 1
            add(12, 13, 1) 2
            add(30, 39, 1) 3
            add(50, 50, 1) 4
            """;
        run(18, five + """
            covered(0) 26
            covered(1) 3
            covered(2) 2
            covered(3) 15
            covered(4) 10
            covered(5) -1
            covered(-1) -1
            put(5, 0, 999, 1) 0
            covered(0) 1000
            covered(1) 1
            covered(2) 0
            covered(3) 0
            covered(4) 0
            """);
        run(18, """
            add(0, 0, 1) 0
            covered(2) 0
            add(999, 999, 1) 1
            covered(0) 2
            covered(3) 998
            covered(4) 998
            add(400, 400, 1) 2
            covered(4) 598
            covered(3) 997
            # one place is a hole, no place is none; what was more before is forgotten
            put(2, 2, 3, 1) 1
            put(1, 4, 4, 1) 1
            covered(0) 4
            covered(1) 2
            covered(2) 1
            covered(3) 1
            covered(4) 1
            """);
        run(19, five + """
            piece(0, 0) 10
            piece(0, 1) 24
            piece(0, 2) 3
            piece(1, 0) 30
            piece(1, 1) 39
            piece(1, 2) 1
            piece(2, 0) 50
            piece(2, 1) 50
            piece(2, 2) 1
            piece(3, 0) -1
            piece(-1, 0) -1
            piece(0, 3) -1
            piece(0, -1) -1
            """);
        run(20, five + """
            hole(0, 0) 25
            hole(0, 1) 29
            hole(1, 0) 40
            hole(1, 1) 49
            hole(2, 0) -1
            hole(-1, 0) -1
            hole(0, 2) -1
            hole(0, -1) -1
            """);
    }

    private static void depths() {
        String four = """
            add(10, 20, 5) 0
            add(15, 30, -8) 1
            add(20, 25, 2) 2
            add(40, 45, 5) 3
            """;
        run(21, four + """
            depth(9, 0) 0
            depth(10, 0) 1
            depth(20, 0) 3
            depth(20, 1) -1
            depth(21, 1) -6
            depth(31, 1) 0
            depth(0, 0) 0
            depth(999, 1) 0
            depth(-1, 0) -2
            depth(1000, 0) -2
            depth(1000, 2) -2
            depth(20, 2) -1
            depth(20, -1) -1
            """);
        run(22, four + """
            deepest(0) 20
            deepest(1) 3
            deepest(2) 10
            deepest(3) 5
            deepest(4) 26
            deepest(5) -8
            deepest(6) -1
            deepest(-1) -1
            drop(1) 3
            # 0 .. 9 have nothing, so the least load is there
            deepest(4) 0
            deepest(5) 0
            put(0, 0, 500, -1) 1
            deepest(2) 40
            deepest(3) 4
            deepest(4) 0
            deepest(5) -1
            put(2, 0, 998, -5) 1
            put(3, 0, 998, -5) 1
            put(0, 0, 998, -5) 1
            deepest(2) 999
            deepest(3) 0
            put(0, 0, 999, -5) 1
            put(2, 0, 999, -5) 1
            put(3, 0, 999, -5) 1
            deepest(2) 0
            deepest(3) -15
            """);
        run(22, """
            add(50, 60, 3) 0
            add(5, 6, 3) 1
            deepest(0) 5
            deepest(2) 5
            add(61, 70, 3) 2
            deepest(2) 5
            """);
    }

    private static void choices() {
        String six = """
            add(10, 20, 4) 0
            add(15, 25, 9) 1
            add(21, 30, 5) 2
            add(0, 5, -3) 3
            add(1, 5, 2) 4
            add(30, 40, 7) 5
            """;
        run(23, six + """
            points(-1) 3
            points(0) 5
            points(1) 20
            points(2) 30
            points(3) -1
            points(-2) -1
            """);
        run(23, """
            add(0, 999, 1) 0
            points(-1) 1
            points(0) 999
            add(0, 0, 1) 1
            points(-1) 1
            points(0) 0
            add(1, 1, 1) 2
            points(-1) 2
            points(1) 1
            """);
        run(24, six + """
            apart(-1) 3
            apart(0) 3
            apart(1) 0
            apart(2) 2
            apart(3) -1
            apart(-2) -1
            drop(3) 5
            apart(0) 4
            """);
        run(25, six + """
            heaviest() 18
            put(1, 15, 25, 1) 1
            heaviest() 13
            drop(4) 5
            heaviest() 11
            """);
        run(25, """
            add(5, 9, -4) 0
            heaviest() 0
            add(5, 9, 0) 1
            heaviest() 0
            add(9, 12, 99) 2
            heaviest() 99
            add(0, 8, 99) 3
            heaviest() 198
            add(0, 999, 99) 4
            heaviest() 198
            """);
    }

    private static void groups() {
        run(26, """
            add(10, 20, 4) 0
            add(15, 25, 9) 1
            add(0, 20, -7) 2
            add(3, 4, 1) 3
            told(8) 3
            group(0, 0) 4
            group(0, 1) 1
            group(0, 2) 8
            group(0, 3) 1
            group(1, 0) 20
            group(1, 1) 2
            group(1, 2) 5
            group(1, 3) -3
            group(2, 0) 25
            group(2, 2) 2
            group(3, 0) -1
            group(-1, 0) -1
            group(0, 4) -1
            group(0, -1) -1
            add(0, 0, 3) 4
            group(0, 0) 0
            group(0, 3) 3
            """);
    }

    private static void tape() {
        run(27, """
            feed(0) -2
            feed(-1) -2
            feed(128) -2
            feed(1) 1
            feed(127) 2
            told(5) 2
            """);
        run(27, "type " + "a".repeat(79) + "\n" + """
            feed(97) 80
            feed(97) -4
            feed(0) -2
            told(5) 80
            clear() 80
            feed(97) 1
            """);
        run(28, """
            clear() 0
            type abc
            clear() 3
            told(5) 0
            clear() 0
            type low<5
            pick() 0
            clear() 0
            """);
    }

    private static void conditions() {
        String four = """
            add(5, 9, 3) 0
            add(0, 20, -10) 1
            add(6, 7, 3) 2
            add(100, 999, 99) 3
            """;
        String[][] good = {
            {"low<6", "3"}, {"low=5", "1"}, {"low>5", "12"}, {"high<9", "4"}, {"high=999", "8"},
            {"weight=-10", "2"}, {"weight>-11", "15"}, {"weight<-0", "2"}, {"length=900", "8"},
            {"length<6", "5"}, {"number=2", "4"}, {"number>-999", "15"}, {"layer=0", "10"}, {"layer=1", "1"},
            {"layer>1", "4"}, {"low<010", "7"}, {"low<1&high<1|number=3", "8"}, {"number=3|low<1&high<1", "8"},
            {"number=3|number=1&number=0", "8"}, {"(number=3|number=1)&number=1", "2"},
            {"!number=3", "7"}, {"!number=3&number>1", "4"}, {"!(number=3|number=1)", "5"},
            {"(!number=0)", "14"}, {"!(!number=0)", "1"}, {"(((((low<1)))))", "2"}, {"!(!(!(!(!(low<1)))))", "13"},
            {"((((low<1))))&(((((low<1)))))", "2"}, {"low<999&high>0&weight>0", "13"},
            {"number=0|number=1|number=2", "7"},
        };
        for (String[] one : good) {
            int bits = Integer.parseInt(one[1]);
            run(29, four + "type " + one[0] + "\npick() " + bits + "\ntold(5) 0\ntold(0) 4\n");
            run(30, four + "type " + one[0] + "\nmany() " + Integer.bitCount(bits) + "\ntold(5) 0\ntold(0) 4\n");
            run(31, four + "type " + one[0] + "\ncull() " + Integer.bitCount(bits) + "\ntold(5) 0\n"
                + "meet(0, 999) " + (15 & ~bits) + "\n");
        }
        String[][] faults = {
            {"l", "0"}, {"lo", "0"}, {"low", "3"}, {"lowe<5", "0"}, {"low<", "4"}, {"low<-", "5"}, {"low<--1", "5"},
            {"low<1000", "7"}, {"low<5 ", "5"}, {"low <5", "3"}, {" low<5", "0"}, {"low<=5", "4"}, {"low!5", "3"},
            {"Low<5", "0"}, {"lowz<5", "0"}, {"xow<5", "0"}, {"low{<5", "3"}, {"low`<5", "3"}, {"low<x", "4"}, {"low<5&", "6"}, {"low<5|", "6"}, {"low<5&&low<5", "6"},
            {"low<5|x=1", "6"}, {"low<5|lo", "6"}, {"!", "1"}, {"!!low<5", "1"}, {"low<5!", "5"}, {"(", "1"},
            {"()", "1"}, {")", "0"}, {"(low<5", "6"}, {"low<5)", "5"}, {"(low<5))", "7"}, {"(low<5", "6"},
            {"((((((low<5))))))", "5"}, {"(((((low<5))))", "14"}, {"!(!(!(!(!(!(low<5))))))", "11"},
            {"((((low<5))))&((((((", "19"}, {"5<low", "0"}, {"low<5;low<5", "5"}, {"shift 5", "0"},
        };
        for (String[] one : faults) {
            int answer = -100 - Integer.parseInt(one[1]);
            run(29, four + "type " + one[0] + "\npick() " + answer + "\ntold(5) 0\n");
            run(30, four + "type " + one[0] + "\nmany() " + answer + "\ntold(5) 0\n");
            run(31, four + "type " + one[0] + "\ncull() " + answer + "\ntold(5) 0\ntold(0) 4\n");
        }
        run(29, "pick() -100\nfeed(127) 1\npick() -100\n");
        run(29, "add(0, 0, 1) 0\nadd(999, 999, 1) 1\ntype !low=5\npick() 3\n");
        run(30, "many() -100\n");
        run(31, "cull() -100\n");
        fullConditions(four);
    }

    private static void fullConditions(String four) {
        // Just 80 bytes that hold, just 80 that end too early, and one byte too much for a number at the very end.
        String good = "low<99" + "&low<99".repeat(9) + "&number>-0";
        run(29, four + "type " + good + "0\ntold(5) 80\npick() 6\n");
        String early = "!low<99" + "&low<999".repeat(9) + "|";
        run(29, four + "type " + early + "\ntold(5) 80\npick() -180\n");
        run(30, four + "type " + early + "\ntold(5) 80\nmany() -180\n");
        String word = "low<99" + "&low<99".repeat(10) + "|low";
        run(29, four + "type " + word + "\ntold(5) 80\npick() -180\n");
        String brackets = "(".repeat(80);
        run(29, four + "type " + brackets + "\ntold(5) 80\npick() -105\n");
        String fourFigures = "low<99" + "&low<99".repeat(9) + "|low=0009";
        run(30, four + "type " + fourFigures + "\ntold(5) 78\nmany() -177\n");
        // culled by how all is ahead of it: the layers are those of the spans that are in before
        run(31, "add(0, 9, 1) 0\nadd(1, 8, 1) 1\nadd(2, 7, 1) 2\nadd(3, 6, 1) 3\n"
            + "type layer=0|layer=2\ncull() 2\nmeet(0, 999) 10\nof(1, 4) 0\nof(3, 4) 1\n");
    }

    private static void changes() {
        String start = "add(100, 199, 10) 0\nadd(500, 509, -3) 1\nadd(990, 999, 1) 2\nput(29, 0, 4, 0) 0\n";
        // of one span: low, high, weight behind the change
        String[][] good = {
            {"0", "shift 5", "105", "204", "10"}, {"0", "shift -5", "95", "194", "10"}, {"0", "shift 0", "100", "199", "10"},
            {"0", "shift -150", "0", "49", "10"}, {"0", "shift 850", "950", "999", "10"}, {"0", "shift 899", "999", "999", "10"},
            {"0", "shift -199", "0", "0", "10"}, {"0", "grow 7", "93", "206", "10"}, {"0", "grow 999", "0", "999", "10"},
            {"0", "grow 000", "100", "199", "10"}, {"0", "clip 150-160", "150", "160", "10"}, {"0", "clip 0-999", "100", "199", "10"},
            {"0", "clip 199-300", "199", "199", "10"}, {"0", "clip 150-150", "150", "150", "10"},
            {"0", "mirror", "800", "899", "10"}, {"0", "mirror;mirror", "100", "199", "10"}, {"0", "times 3", "100", "199", "30"},
            {"0", "times 10", "100", "199", "99"}, {"0", "times 0", "100", "199", "0"}, {"1", "times 33", "500", "509", "-99"},
            {"1", "times 34", "500", "509", "-99"}, {"1", "times 999", "500", "509", "-99"},
            {"0", "heap", "100", "199", "99"}, {"1", "heap", "500", "509", "10"}, {"1", "heap;times 9", "500", "509", "90"},
            {"0", "clip 150-160;heap", "150", "160", "11"}, {"0", "heap;clip 150-160", "150", "160", "99"},
            // numbers as great as they come, held only behind all steps
            {"0", "shift 999;shift -999", "100", "199", "10"}, {"0", "grow 999;shift 999", "100", "999", "10"},
            {"0", "clip 300-400;shift 1;grow 100", "201", "300", "10"},
            {"0", "clip 300-400;heap;grow 100", "200", "299", "-99"}, {"1", "clip 510-999;heap;grow 50", "460", "559", "0"},
            {"1", "clip 512-999;heap;grow 50", "462", "559", "-2"}, {"1", "clip 512-999;heap;times 2;grow 50", "462", "559", "-4"},
            {"0", "times 99;times 0;heap", "100", "199", "99"},
            {"0", "shift 1;shift 1;shift 1;shift 1;shift 1", "105", "204", "10"}, {"29", "grow 5", "0", "9", "0"},
        };
        for (String[] one : good) {
            int span = Integer.parseInt(one[0]);
            run(32, start + "type " + one[1] + "\nchange(" + (1 << span) + ") 1\ntold(5) 0\nof(" + span + ", 0) " + one[2]
                + "\nof(" + span + ", 1) " + one[3] + "\nof(" + span + ", 2) " + one[4] + "\ntold(0) 4\n");
        }
        String[][] out = {
            {"0", "shift 900"}, {"0", "shift -200"}, {"0", "clip 200-300"}, {"0", "clip 0-99"}, {"2", "shift 10"},
            {"0", "shift -999;mirror"}, {"29", "shift -5"}, {"1", "clip 510-999;grow 0"},
        };
        for (String[] one : out) {
            int span = Integer.parseInt(one[0]);
            run(32, start + "type " + one[1] + "\nchange(" + (1 << span) + ") 1\ntold(0) 3\nof(" + span + ", 0) -3\n");
        }
        changeFaults(start);
        run(32, start + """
            type shift 1
            change(-1) 4
            of(0, 0) 101
            of(29, 0) 1
            type shift 1
            change(0) 0
            of(0, 0) 101
            # bits of what is out, and of what is no span
            type shift 1
            change(1073741832) 0
            type shift 1
            change(2147483647) 4
            type shift 1
            change(-2) -2
            told(5) 7
            change(-2147483648) -2
            told(5) 7
            change(3) 2
            told(5) 0
            change(-3) -2
            # layers are those of the changed spans
            put(1, 150, 160, 1) 1
            of(1, 4) 1
            type shift 300
            change(2) 1
            of(1, 4) 0
            type heap
            change(536870912) 1
            of(29, 2) 5
            """);
    }

    private static void changeFaults(String start) {
        String[][] faults = {
            {"shift", "5"}, {"shift ", "6"}, {"shift -", "7"}, {"shift --5", "7"}, {"shift  5", "6"}, {"shift5", "5"},
            {"shift 5 ", "7"}, {"shift 1000", "9"}, {"shift -1000", "10"}, {"shift 5;", "8"}, {"shift 5;;heap", "8"},
            {"grow -5", "5"}, {"grow", "4"}, {"grow 5-6", "6"}, {"clip 5", "6"}, {"clip 5-", "7"}, {"clip 9-8", "7"},
            {"clip 9-8x", "7"}, {"clip 900-1000", "9"}, {"clip -5-6", "5"}, {"clip 5-6-7", "8"}, {"clip 5 6", "6"},
            {"mirror 5", "6"}, {"mirror;", "7"}, {"times -3", "6"}, {"times", "5"}, {"heap 3", "4"}, {"heap;spin", "5"},
            {"move 5", "0"}, {"Shift 5", "0"}, {" shift 5", "0"}, {";heap", "0"}, {"heapheap", "0"},
            {"heap;heap;heap;heap;heap;heap", "24"}, {"heap;heap;heap;heap;heap;", "24"}, {"low<5", "0"},
            {"heap,heap", "4"}, {"heap;clip 9-1;shift", "12"},
        };
        for (String[] one : faults) {
            run(32, start + "type " + one[0] + "\nchange(-1) " + (-100 - Integer.parseInt(one[1]))
                + "\ntold(5) 0\ntold(0) 4\nof(0, 0) 100\nof(0, 2) 10\nof(1, 2) -3\n");
        }
        run(32, "change(-1) -100\nchange(-2) -2\n");
        String eighty = "clip 000-999;".repeat(4) + "clip 000-999" + ";".repeat(16);
        run(32, start + "type " + eighty + "\ntold(5) 80\nchange(-1) -164\n");
    }

    private static void loads() {
        String[][] faults = {
            {"3", "1"}, {"3-", "2"}, {"-3", "0"}, {"3-9:", "4"}, {"3-9:-", "5"}, {"3-9:100", "6"}, {"3-9:-100", "7"},
            {"3-9:--1", "5"}, {"9-3", "2"}, {"9-3x", "2"}, {"900-1000", "4"}, {"9-1000", "5"}, {"1000-2000", "3"},
            {"3-9,4-5", "3"}, {"3-9;", "4"}, {";3-9", "0"}, {"3-9;;4-5", "4"}, {"3-9;9-8;x", "6"}, {"3-9:5:5", "5"},
            {"3 -9", "1"}, {"3-9 ", "3"}, {"x", "0"}, {"3--9", "2"}, {"3-9:+1", "4"},
        };
        for (String[] one : faults) {
            run(33, "add(1, 2, 3) 0\ntype " + one[0] + "\nload() " + (-100 - Integer.parseInt(one[1]))
                + "\ntold(5) 0\ntold(0) 1\n");
        }
        run(33, """
            load() -100
            put(1, 5, 5, 5) 0
            type 3-9;0-999:99;7-7:-99;007-008:1;4-5:0
            load() 5
            told(5) 0
            told(0) 6
            of(0, 0) 3
            of(0, 1) 9
            of(0, 2) 1
            of(1, 0) 5
            of(2, 0) 0
            of(2, 1) 999
            of(2, 2) 99
            of(3, 2) -99
            of(4, 0) 7
            of(4, 1) 8
            of(4, 2) 1
            of(5, 2) 0
            of(0, 4) 1
            type 999-999:-0
            load() 1
            of(6, 2) 0
            """);
        String twenty = "0-0" + ";0-0".repeat(19);
        run(33, "type " + twenty + "\nload() 20\ntype " + twenty + "\nload() 10\ntold(0) 30\ntype " + twenty
            + "\nload() 0\ntype 9-8\nload() -102\n");
        run(33, "type " + twenty + ";\ntold(5) 80\nload() -180\ntold(0) 0\n");
        run(33, "type " + twenty + "0\ntold(5) 80\nload() 20\ntold(0) 20\n");
    }

    private static void papers() {
        String three = "add(5, 9, 3) 0\nadd(0, 20, 1) 1\nadd(100, 999, -99) 2\n";
        checkPaper(three, 0, "0-20;5-9:3;100-999:-99");
        checkPaper(three, 1, "100-999:-99;0-20;5-9:3");
        checkPaper(three, 2, "100-999:-99;0-20;5-9:3");
        checkPaper(three, 3, "5-9:3;0-20;100-999:-99");
        checkPaper(three, 4, "0-20;100-999:-99;5-9:3");
        checkPaper("add(0, 0, 0) 0\n", 0, "0-0:0");
        checkPaper("add(0, 10, -1) 0\n", 0, "0-10:-1");
        checkPaper("add(909, 990, 10) 0\n", 0, "909-990:10");
        run(34, three + """
            spell(5) -1
            spell(-1) -1
            told(6) 0
            spell(0) 22
            told(6) 22
            spell(5) -1
            told(6) 22
            """);
        StringBuilder full = new StringBuilder();
        for (int k = 0; k < 30; k++) full.append("add(100, 999, -99) ").append(k).append('\n');
        checkPaper(full.toString(), 3, "100-999:-99" + ";100-999:-99".repeat(29));
        run(35, three + """
            paper(0) -1
            spell(0) 22
            paper(0) 48
            paper(21) 57
            paper(22) -1
            paper(-1) -1
            # the paper holds what was spelled, whatever comes then
            drop(1) 2
            paper(0) 48
            drop(0) 1
            drop(2) 0
            spell(0) 0
            paper(0) -1
            """);
    }

    private static void checkPaper(String script, int order, String text) {
        StringBuilder all = new StringBuilder(script);
        all.append("spell(").append(order).append(") ").append(text.length()).append('\n');
        for (int k = 0; k < text.length(); k++) {
            all.append("paper(").append(k).append(") ").append((int) text.charAt(k)).append('\n');
        }
        all.append("paper(").append(text.length()).append(") -1\ntold(6) ").append(text.length()).append('\n');
        run(34, all.toString());
    }

    private static void told() {
        run(36, """
            add(10, 20, 4) 0
            add(15, 20, -9) 1
            add(15, 20, 2) 2
            add(0, 999, 99) 3
            open(1, 0) 1
            type low
            spell(1) 33
            told(0) 4
            told(1) 1
            told(2) 4
            told(3) 96
            told(4) 1023
            told(5) 3
            told(6) 33
            told(7) 4
            told(8) 2
            told(9) -1
            told(-1) -1
            drop(3) 3
            told(2) 3
            told(7) 3
            told(8) 1
            drop(1) 2
            drop(2) 1
            told(2) 1
            told(3) 4
            told(4) 11
            told(7) 1
            """);
    }

    private static void lists() {
        run(37, """
            list(0, 3) 1
            get(0, 2) 0
            get(0, 3) -2000000000
            set(0, 2, 9) 1
            set(0, 0, 8) 1
            list(0, 3) 1
            get(0, 2) 0
            get(0, 0) 0
            list(0, 40) 1
            get(0, 39) 0
            list(0, 41) -2
            list(0, -1) -14
            get(0, 39) 0
            list(4, 3) -1
            list(-1, 3) -1
            list(4, 41) -1
            list(4, -1) -1
            list(3, 0) 1
            get(3, 0) -2000000000
            set(3, 0, 1) -13
            list(0, 1) 1
            get(0, 1) -2000000000
            list(1, 41) -2
            set(1, 0, 1) -11
            """);
        run(38, """
            set(0, 0, 5) -11
            list(0, 2) 1
            set(0, 0, 2147483647) 1
            set(0, 1, -2147483648) 1
            get(0, 0) 2147483647
            get(0, 1) -2147483648
            set(0, 2, 1) -13
            set(0, -1, 1) -13
            set(4, 0, 1) -1
            set(-1, 0, 1) -1
            set(1, 9, 1) -11
            list(0, 40) 1
            set(0, 39, 7) 1
            set(0, 40, 7) -13
            """);
        run(39, """
            get(0, 0) -2000000000
            get(4, 0) -2000000000
            get(-1, 0) -2000000000
            list(0, 2) 1
            get(0, 0) 0
            get(0, 2) -2000000000
            get(0, -1) -2000000000
            set(0, 1, -2000000000) 1
            get(0, 1) -2000000000
            list(1, 2) 1
            set(1, 0, 8) 1
            get(0, 0) 0
            get(1, 0) 8
            """);
        String three = "add(5, 9, 3) 0\nadd(1, 20, 1) 1\nadd(0, 2, -9) 2\n";
        run(40, three + """
            lay(0, 0, 0) -11
            list(0, 5) 1
            set(0, 0, 77) 1
            lay(0, 1, 0) 3
            get(0, 0) 77
            get(0, 1) 2
            get(0, 2) 1
            get(0, 3) 0
            get(0, 4) 0
            lay(0, 2, 3) 3
            get(0, 1) 2
            get(0, 2) 0
            get(0, 3) 1
            get(0, 4) 2
            lay(0, 3, 1) -13
            get(0, 2) 0
            get(0, 3) 1
            get(0, 4) 0
            lay(0, 5, 0) -13
            lay(0, 2147483647, 0) -13
            lay(0, -1, 0) -13
            lay(0, -2147483648, 0) -13
            get(0, 0) 77
            get(0, 1) 2
            get(0, 3) 1
            get(0, 4) 0
            lay(4, 0, 0) -1
            lay(-1, 0, 0) -1
            lay(0, 0, 5) -1
            lay(0, 0, -1) -1
            lay(1, 0, 5) -1
            lay(1, -1, 0) -11
            list(2, 0) 1
            lay(2, 0, 0) -13
            """);
        // with no spans all are laid wherever it begins
        run(40, "list(0, 2) 1\nlay(0, 0, 0) 0\nlay(0, 9, 0) 0\nlay(0, -1, 0) 0\n");
        run(41, three + """
            judge(0, 0, 0) -11
            list(0, 5) 1
            judge(0, 0, 0) 0
            lay(0, 1, 0) 3
            judge(0, 1, 0) -5
            judge(0, 1, 4) -5
            judge(0, 1, 2) 0
            judge(0, 2, 0) 0
            set(0, 2, 9) 1
            judge(0, 1, 0) 1
            judge(0, 1, 1) 0
            set(0, 3, 2) 1
            set(0, 4, 1) 1
            judge(0, 3, 0) 102
            judge(0, 4, 1) 101
            judge(0, 4, 0) 0
            judge(0, 5, 0) 100
            judge(0, 2147483647, 0) 100
            judge(0, -1, 0) 100
            judge(0, -2147483648, 0) 100
            judge(4, 0, 0) -1
            judge(-1, 0, 0) -1
            judge(0, 0, 5) -1
            judge(0, 0, -1) -1
            judge(1, 0, 5) -1
            judge(1, -1, 0) -11
            """);
        run(41, "list(0, 2) 1\njudge(0, 0, 0) -5\njudge(0, 9, 0) -5\njudge(0, -1, 0) -5\n");
    }

    private static void images() {
        run(42, """
            image() 0
            add(1, 9, 1) 0
            add(2, 3, 1) 1
            image() 2
            drop(0) 1
            image() 1
            undo() 1
            of(0, 0) -3
            """);
        run(43, """
            undo() -3
            add(1, 9, 1) 0
            add(2, 3, 5) 1
            image() 2
            put(0, 4, 4, 4) 1
            drop(1) 1
            add(7, 7, 7) 1
            add(8, 8, 8) 2
            open(0, 0) 1
            open(2, 3) 2
            next(0) 0
            type low
            list(0, 2) 1
            spell(0) 17
            undo() 2
            told(1) 0
            next(0) -3
            remove(0) -3
            of(0, 0) 1
            of(0, 1) 9
            of(0, 2) 1
            of(1, 0) 2
            of(1, 2) 5
            of(1, 4) 1
            of(2, 0) -3
            # only spans and cursors go back
            told(5) 3
            told(6) 17
            get(0, 0) 0
            # the image stays
            drop(0) 1
            undo() 2
            of(0, 1) 9
            open(0, 0) 1
            next(0) 0
            """);
    }

    /** No call throws, whatever its numbers are; what it answers there is checked elsewhere. */
    private static void extremes() throws Exception {
        int[] numbers = {Integer.MIN_VALUE, Integer.MIN_VALUE + 1, -1001, -2, -1, 0, 1, 2, 3, 5, 29, 30, 31, 40, 80, 127,
            999, 1000, Integer.MAX_VALUE - 1, Integer.MAX_VALUE};
        for (Method m : SpanLayers.class.getDeclaredMethods()) {
            if (!java.lang.reflect.Modifier.isPublic(m.getModifiers())) continue;
            for (int round = 0; round < 400; round++) {
                SpanLayers x = new SpanLayers();
                if (round % 2 == 0) for (int k = 0; k < 31; k++) x.add(k * 33, 999 - k, k);
                x.open(0, 0);
                x.next(0);
                x.list(0, 40);
                Object[] values = new Object[m.getParameterCount()];
                int left = round / 2;
                for (int k = 0; k < values.length; k++, left /= 7) values[k] = numbers[(left * 3 + round) % numbers.length];
                m.invoke(x, values);
            }
        }
    }
}
