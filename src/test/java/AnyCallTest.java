import java.util.List;
import java.util.Map;
import java.util.Random;

/**
 * Any calls with any arguments, 512 on each object: each answers, or throws what the document names for it and nothing
 * else; one that throws changes nothing; and the same calls give the same answers.
 */
public final class AnyCallTest {
    private static final int[] NUMBERS = {Integer.MIN_VALUE, -1000, -2, -1, 0, 0, 0, 1, 1, 1, 2, 2, 2, 3, 3, 4, 4, 5, 5, 6, 7, 8, 9,
        10, 12, 13, 23, 24, 25, 31, 32, 59, 60, 61, 63, 64, 68, 69, 120, 399, 400, 401, 1 << 30, Integer.MAX_VALUE};
    private static final String[] TEXTS = {"a", "always {a;b}|->c", "never {b[*2..3];a}", "{a[*9]&&b}|=>next[2] c", "((a until b)and{c})",
        "next[3] (a before b)", "input x;", "input x;input y;latch q 1;next q=x^q;signal a=q&y;signal b=x|q;", "aag 1 1 0 6 0 2 2 2 2 2 2 2",
        "aag 3 1 1 6 1 2 4 6 1 6 7 0 1 2 4 6 4 3", "{a", "input x;signal a=y;", "aag 1 1", "{{a;b;c}[*9];{a;b;c}[*9]}", "0", "{a[->3]}"};
    private static final String[] CALLS = {"put", "end", "read", "letter", "clear", "word", "row", "goesOn", "classes", "classOf",
        "classBehind", "kind", "flops", "flop", "readDesign", "readNumbers", "number", "has", "design", "gate", "latch", "signal",
        "search", "run", "differ", "witness"};
    private static final String STATE = "IllegalStateException";
    private static final String ARGUMENT = "IllegalArgumentException";
    private static final String INDEX = "IndexOutOfBoundsException";
    private static final String UNSUPPORTED = "UnsupportedOperationException";

    /** What each call may throw. */
    private static final Map<String, List<String>> MAY_THROW = Map.ofEntries(
            Map.entry("put", List.of(ARGUMENT, UNSUPPORTED)), Map.entry("end", List.of(ARGUMENT)),
            Map.entry("read", List.of(INDEX)), Map.entry("letter", List.of(ARGUMENT, UNSUPPORTED)),
            Map.entry("word", List.of(ARGUMENT)), Map.entry("row", List.of(INDEX, ARGUMENT, STATE)),
            Map.entry("goesOn", List.of(INDEX, ARGUMENT, STATE)), Map.entry("classes", List.of(INDEX, STATE, UNSUPPORTED)),
            Map.entry("classOf", List.of(INDEX, ARGUMENT, STATE, UNSUPPORTED)),
            Map.entry("classBehind", List.of(INDEX, STATE, UNSUPPORTED, ARGUMENT)),
            Map.entry("kind", List.of(INDEX, STATE, UNSUPPORTED, ARGUMENT)), Map.entry("flops", List.of(INDEX, UNSUPPORTED)),
            Map.entry("flop", List.of(INDEX, UNSUPPORTED, "NoSuchElementException")), Map.entry("number", List.of(INDEX)),
            Map.entry("has", List.of(ARGUMENT)), Map.entry("design", List.of(ARGUMENT)),
            Map.entry("gate", List.of(ARGUMENT, UNSUPPORTED)), Map.entry("latch", List.of(ARGUMENT)),
            Map.entry("signal", List.of(ARGUMENT)), Map.entry("search", List.of(INDEX, ARGUMENT, UNSUPPORTED)),
            Map.entry("run", List.of(STATE, INDEX, ARGUMENT)), Map.entry("differ", List.of(ARGUMENT, UNSUPPORTED)),
            Map.entry("witness", List.of(STATE, INDEX)));

    public static void main(String[] args) {
        for (int seed = 0; seed < 400; seed++) {
            Check.about("seed " + seed);
            Check.same("the same calls", answers(seed, true), answers(seed, false));
        }
        Check.done("AnyCallTest");
    }

    private static String answers(int seed, boolean looks) {
        Random random = new Random(seed);
        AssertionBench bench = new AssertionBench();
        StringBuilder out = new StringBuilder();
        for (int calls = 0; calls < 512; calls++) {
            if (random.nextInt(8) == 0) {
                calls += putText(bench, random);
            }
            String name = CALLS[random.nextInt(CALLS.length)];
            int[] n = {pick(random), pick(random), pick(random)};
            String before = looks && calls % 16 == 0 ? State.of(bench) : "";
            String answer = Calls.outcome(bench, name, n);
            out.append(answer).append(' ');
            if (looks && answer.endsWith("Exception")) {
                Check.holds(name + " throws " + answer, MAY_THROW.getOrDefault(name, List.of()).contains(answer));
                Check.holds(name + " changes nothing", before.isEmpty() || before.equals(State.of(bench)));
            }
        }
        return out.toString();
    }

    private static int pick(Random random) {
        // Mostly small ones, of which more calls are right.
        return random.nextInt(3) > 0 ? random.nextInt(5) : NUMBERS[random.nextInt(NUMBERS.length)];
    }

    /** Puts a text if there is room for it, and tells how many calls that took. */
    private static int putText(AssertionBench bench, Random random) {
        String text = TEXTS[random.nextInt(TEXTS.length)];
        bench.end(0);
        Text.put(bench, text);
        return 1 + (text.length() + 3) / 4;
    }
}
