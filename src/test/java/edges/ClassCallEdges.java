import java.util.NoSuchElementException;

/** Promises 10 to 15: classes and flip-flops. */
final class ClassCallEdges {
    private static final Class<IllegalArgumentException> ARGUMENT = IllegalArgumentException.class;
    private static final Class<IndexOutOfBoundsException> INDEX = IndexOutOfBoundsException.class;
    private static final Class<IllegalStateException> STATE = IllegalStateException.class;
    private static final Class<UnsupportedOperationException> UNSUPPORTED = UnsupportedOperationException.class;
    private static final int[] NO_PROPERTIES = {-1, 2, Integer.MAX_VALUE, Integer.MIN_VALUE};
    private static final String[] WITHOUT_SEQUENCE = {"1", "a->b", "always a", "(a until b)", "(a before b)"};

    private ClassCallEdges() {
    }

    static void run() {
        Edge.in("Promise 10");
        Edge.says("How many CLASSES property p's first sequence has.", ClassCallEdges::classes);
        Edge.says("IndexOutOfBoundsException if there is no such property;", ClassCallEdges::classesOfNoProperty);
        Edge.says("IllegalStateException if it has no sequence;", ClassCallEdges::classesOfNoSequence);
        Edge.says("UnsupportedOperationException if that one's weight is above 6.", ClassCallEdges::classesOfWeight);
        Edge.in("Promise 11");
        Edge.says("The class of the letters from place i to j - 1.", ClassCallEdges::classOf);
        Edge.says("Exceptions as for row(), then UnsupportedOperationException as for classes().",
                ClassCallEdges::classOfWrong);
        Edge.in("Promise 12");
        Edge.says("The class of a row of class c with a letter behind it.", ClassCallEdges::classBehind);
        Edge.says("Exceptions as for classes(), then IllegalArgumentException if there is no such class or letter.",
                ClassCallEdges::classBehindWrong);
        Edge.in("Promise 13");
        Edge.says("3 if a class's rows are of the sequence, 2 if not, but they go on to it, otherwise 0.",
                ClassCallEdges::kind);
        Edge.says("Exceptions as for classes(), then IllegalArgumentException if there is no such class.",
                ClassCallEdges::kindWrong);
        Edge.in("Promise 14");
        Edge.says("How many FLIP-FLOPS property p has.", ClassCallEdges::flops);
        Edge.says("IndexOutOfBoundsException if there is no such property;", ClassCallEdges::flopsOfNoProperty);
        Edge.says("UnsupportedOperationException if it isn't SMALL.", ClassCallEdges::flopsOfGreat);
        Edge.in("Promise 15");
        Edge.says("Flip-flop k, behind the word.", ClassCallEdges::flop);
        Edge.says("Exceptions as for flops(), then NoSuchElementException if there is none such.",
                ClassCallEdges::flopWrong);
    }

    private static void classes(int due, String sequence) {
        Check.same(sequence, due, Text.bench("{" + sequence + "}").classes(0));
        Check.same(sequence, due, Text.bench("1", "next {" + sequence + "}|->{a[*9]}").classes(1));
    }

    private static void classes() {
        classes(1, "1[*]");
        classes(1, "a&&{b;c}");
        classes(2, "a[*]");
        classes(2, "0");
        classes(3, "a");
        classes(4, "a;b");
        classes(8, "a;b;c;d;e;f");
        mostClasses();
        // Of the property that was read last.
        AssertionBench bench = Text.bench("{a}");
        Text.read(bench, 0, "{a;b}");
        Check.same("read again", 4, bench.classes(0));
        Text.read(bench, 0, "{a");
        Check.same("a fault leaves it", 4, bench.classes(0));
    }

    /** As many as there can be: what no letters tell, and whichever of six have come every time. */
    private static void mostClasses() {
        AssertionBench bench = Text.bench("{a[+]||b[+]||c[+]||d[+]||e[+]||f[+]}", "{a[*]||b[*]||c[*]||d[*]||e[*]||f[*]}");
        Check.same("each set of signals, and none yet", 65, bench.classes(0));
        Check.same("none yet is like all of them", 64, bench.classes(1));
        for (int v = 0; v < 64; v++) {
            Check.same("letter " + v, v + 1, bench.classBehind(0, 0, v));
            Check.same("letter " + v, v == 63 ? 0 : v + 1, bench.classBehind(1, 0, v));
            Check.same("kind of " + v, v == 0 ? 0 : 3, bench.kind(0, v + 1));
            for (int w = 0; w < 64; w++) {
                Check.same(v + " and " + w, (v & w) + 1, bench.classBehind(0, v + 1, w));
            }
        }
    }

    private static void classesOfNoProperty() {
        AssertionBench bench = Text.bench("{a}", "{a;b}");
        for (int p : NO_PROPERTIES) {
            Check.fails("property " + p, INDEX, () -> bench.classes(p));
        }
        Check.same("property 0", 3, bench.classes(0));
        Check.same("property 1", 4, bench.classes(1));
    }

    private static void classesOfNoSequence() {
        for (String none : WITHOUT_SEQUENCE) {
            AssertionBench bench = Text.bench(none);
            Check.fails(none, STATE, () -> bench.classes(0));
        }
    }

    private static void classesOfWeight() {
        for (int weight = 1; weight <= 9; weight++) {
            AssertionBench bench = Text.bench("{a[*" + weight + "]}");
            String due = weight > 6 ? "UnsupportedOperationException" : String.valueOf(weight + 2);
            Check.same("weight " + weight, due, Check.outcome(() -> bench.classes(0)));
        }
        AssertionBench first = Text.bench("{a}|->{a[*7]}|->{a}|->{a}|->{a}", "{a[*7]}|->{a}");
        Check.same("the first one's alone, though the property isn't small", 3, first.classes(0));
        Check.fails("the first one's alone", UNSUPPORTED, () -> first.classes(1));
        AssertionBench forty = Text.bench("{a[*9];a[*9];a[*9];a[*9];a[*4]}");
        Check.fails("weight 40", UNSUPPORTED, () -> forty.classes(0));
    }

    private static void classOf() {
        AssertionBench bench = Text.bench("{a;b}|->{c}");
        Text.letters(bench, "a b a -");
        // The classes are none 0, dead 1, a 2, a b 3.
        int[][] due = {{0, 2, 3, 1, 1}, {0, 1, 1, 1}, {0, 2, 1}, {0, 1}, {0}};
        for (int i = 0; i <= 4; i++) {
            for (int j = i; j <= 4; j++) {
                Check.same("from " + i + " to " + j, due[i][j - i], bench.classOf(0, i, j));
            }
        }
        AssertionBench most = Text.bench("{a[*]}");
        for (int n = 0; n < 24; n++) {
            most.letter(1);
        }
        Check.same("all 24 letters", 0, most.classOf(0, 0, 24));
        Check.same("none behind them", 0, most.classOf(0, 24, 24));
    }

    private static void classOfWrong() {
        AssertionBench bench = Text.bench("{a}", "a");
        Text.letters(bench, "a b");
        for (int p : NO_PROPERTIES) {
            Check.fails("property " + p, INDEX, () -> bench.classOf(p, 0, 0));
        }
        int[][] wrong = {{-1, 0}, {0, -1}, {0, 3}, {3, 3}, {1, 0}, {2, 1}, {Integer.MIN_VALUE, 2}, {0, Integer.MAX_VALUE}};
        for (int[] w : wrong) {
            Check.fails("classOf " + w[0] + " " + w[1], ARGUMENT, () -> bench.classOf(0, w[0], w[1]));
            Check.fails("classOf " + w[0] + " " + w[1], ARGUMENT, () -> bench.classOf(1, w[0], w[1]));
        }
        Check.fails("no sequence", STATE, () -> bench.classOf(1, 0, 2));
        Text.read(bench, 1, "{a[*7]}");
        Check.fails("weight 7", UNSUPPORTED, () -> bench.classOf(1, 0, 0));
        Text.read(bench, 1, "{a[*6]}");
        Check.same("weight 6", 0, bench.classOf(1, 0, 0));
    }

    private static void classBehind() {
        AssertionBench bench = Text.bench("{a;f}");
        for (int v = 0; v < 64; v++) {
            boolean a = (v & 1) != 0;
            boolean f = (v & 32) != 0;
            Check.same("none and " + v, a ? 2 : 1, bench.classBehind(0, 0, v));
            Check.same("dead and " + v, 1, bench.classBehind(0, 1, v));
            Check.same("a and " + v, f ? 3 : 1, bench.classBehind(0, 2, v));
            Check.same("a f and " + v, 1, bench.classBehind(0, 3, v));
        }
        // Classes that are numbered by how often a signal has come, or has not.
        for (int k = 0; k < 6; k++) {
            char signal = (char) ('a' + k);
            AssertionBench counts = Text.bench("{" + signal + "[=2]}", "{!" + signal + "[=2]}");
            for (int c = 0; c <= 3; c++) {
                Check.same(signal + " once more", Math.min(c + 1, 3), counts.classBehind(0, c, 1 << k));
                Check.same(signal + " not", c, counts.classBehind(0, c, 63 - (1 << k)));
                Check.same(signal + " once more without", Math.min(c + 1, 3), counts.classBehind(1, c, 0));
                Check.same(signal + " with", c, counts.classBehind(1, c, 63));
            }
        }
    }

    private static void classBehindWrong() {
        AssertionBench bench = Text.bench("{a}", "a");
        for (int p : NO_PROPERTIES) {
            Check.fails("property " + p, INDEX, () -> bench.classBehind(p, 0, 0));
        }
        Check.fails("no sequence", STATE, () -> bench.classBehind(1, 0, 0));
        Text.read(bench, 1, "{a[*7]}");
        Check.fails("weight 7", UNSUPPORTED, () -> bench.classBehind(1, 0, 0));
        for (int c : new int[] {-1, 3, 4, Integer.MAX_VALUE, Integer.MIN_VALUE}) {
            Check.fails("class " + c, ARGUMENT, () -> bench.classBehind(0, c, 0));
        }
        for (int v : new int[] {-1, 64, Integer.MAX_VALUE, Integer.MIN_VALUE}) {
            Check.fails("letter " + v, ARGUMENT, () -> bench.classBehind(0, 0, v));
        }
        Check.same("the last class and letter", 1, bench.classBehind(0, 2, 63));
        Check.same("the first ones", 1, bench.classBehind(0, 0, 0));
    }

    private static void kind() {
        Due.kinds("203", "a");
        Due.kinds("2023", "a;b");
        Due.kinds("3", "1[*]");
        Due.kinds("30", "a[*]");
        Due.kinds("20", "0");
        Due.kinds("0", "a&&{b;c}");
        Due.kinds("202", "a;0");
        // A row that goes on to longer ones is still a row.
        Due.kinds("303", "a[*0..1]");
        Due.kinds("20233", "a[*2..3]");
    }

    private static void kindWrong() {
        AssertionBench bench = Text.bench("{a}", "a");
        for (int p : NO_PROPERTIES) {
            Check.fails("property " + p, INDEX, () -> bench.kind(p, 0));
        }
        Check.fails("no sequence", STATE, () -> bench.kind(1, 0));
        Text.read(bench, 1, "{a[*7]}");
        Check.fails("weight 7", UNSUPPORTED, () -> bench.kind(1, 0));
        for (int c : new int[] {-1, 3, 4, Integer.MAX_VALUE, Integer.MIN_VALUE}) {
            Check.fails("class " + c, ARGUMENT, () -> bench.kind(0, c));
        }
        Check.same("the first class", 2, bench.kind(0, 0));
        Check.same("the last class", 3, bench.kind(0, 2));
    }

    private static void flops(int due, String property) {
        Check.same(property, due, Text.bench(property).flops(0));
        Check.same(property, due, Text.bench("1", property).flops(1));
    }

    private static void flops() {
        flops(2, "a");
        flops(2, "a->b");
        flops(2, "next[0] a");
        flops(3, "next a");
        flops(11, "next[9] a");
        flops(3, "always a");
        flops(3, "(a until b)");
        flops(3, "(a before b)");
        flops(2, "(a and b)");
        flops(3, "{a}");
        flops(4, "{a}|->1");
        flops(4, "{a}|=>1");
        flops(4, "never {a}");
        flops(2, "{a[*]}");
        flops(3, "never {a[*]}");
        flops(2, "never {a&&{b;c}}");
        flops(2 + 4 * 7, "{a[*6]}|->{a[*6]}|->{a[*6]}|->never {a[*6]}");
        flops(2 + 9 * 40, "next[9] ".repeat(40) + "a");
    }

    private static void flopsOfNoProperty() {
        AssertionBench bench = Text.bench("always a", "a");
        for (int p : NO_PROPERTIES) {
            Check.fails("property " + p, INDEX, () -> bench.flops(p));
        }
        Check.same("property 0", 3, bench.flops(0));
        Check.same("property 1", 2, bench.flops(1));
    }

    private static void flopsOfGreat() {
        AssertionBench bench = Text.bench("{a[*7]}", "{a}|->{a}|->{a}|->{a}|->{a}");
        Check.fails("weight 7", UNSUPPORTED, () -> bench.flops(0));
        Check.fails("five sequences", UNSUPPORTED, () -> bench.flops(1));
        Text.read(bench, 0, "{a}|->never {a[*7]}");
        Check.fails("the second one's weight 7", UNSUPPORTED, () -> bench.flops(0));
        Text.read(bench, 0, "{a[*6]}");
        Text.read(bench, 1, "{a}|->{a}|->{a}|->{a}");
        Check.same("weight 6", 8, bench.flops(0));
        Check.same("four sequences", 9, bench.flops(1));
    }

    private static void flop() {
        AssertionBench bench = Text.bench("always a", "next[2] b");
        Check.same("behind no letters", "100 1000", Text.flops(bench, 0) + " " + Text.flops(bench, 1));
        bench.letter(1);
        Check.same("behind one", "010 0100", Text.flops(bench, 0) + " " + Text.flops(bench, 1));
        bench.letter(0);
        Check.same("behind two", "011 0010", Text.flops(bench, 0) + " " + Text.flops(bench, 1));
        bench.letter(1);
        Check.same("behind three", "011 0001", Text.flops(bench, 0) + " " + Text.flops(bench, 1));
        for (int n = 3; n < 24; n++) {
            bench.letter(2);
        }
        Check.same("behind 24", "011 0001", Text.flops(bench, 0) + " " + Text.flops(bench, 1));
        bench.clear();
        Check.same("behind none again", "100 1000", Text.flops(bench, 0) + " " + Text.flops(bench, 1));
    }

    private static void flopWrong() {
        AssertionBench bench = Text.bench("always a", "{a[*7]}");
        for (int p : NO_PROPERTIES) {
            Check.fails("property " + p, INDEX, () -> bench.flop(p, 0));
        }
        Check.fails("weight 7", UNSUPPORTED, () -> bench.flop(1, 0));
        for (int letters = 0; letters < 2; letters++) {
            for (int k : new int[] {-1, 3, 4, Integer.MAX_VALUE, Integer.MIN_VALUE}) {
                Check.fails("flip-flop " + k, NoSuchElementException.class, () -> bench.flop(0, k));
            }
            Check.same("the first one", letters == 0, bench.flop(0, 0));
            Check.same("the last one", letters == 1, bench.flop(0, 2));
            bench.letter(0);
        }
    }
}
