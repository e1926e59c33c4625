import java.util.ArrayList;
import java.util.List;
import java.util.Random;

/**
 * All promises together: runs of up to 512 calls on one object, right ones and wrong ones, each answer set against that of
 * a model of the whole bench. What a call leaves as it was shows in what the calls behind it answer.
 */
public final class RunTest {
    private static final int MOST_CALLS = 512;
    private static final int[] WRONG = {Integer.MIN_VALUE, -1, 2, 3, 4, 6, 9, 25, 64, 401, 1 << 30, 1431655766,
        Integer.MAX_VALUE};
    /** Four blanks, one sign, none, and signs that there are none of. */
    private static final int[] SIGNS = {0x20202020, 'a', 0, 127, 31 << 24, -1};

    private final AssertionBench bench = new AssertionBench();
    private final BenchModel model = new BenchModel();
    private final Random random;
    private final Maker maker;
    private final int signals;
    private final List<String> told = new ArrayList<>();

    private RunTest(int seed) {
        random = new Random(seed);
        signals = 1 + seed % 3;
        maker = new Maker(seed, signals);
    }

    public static void main(String[] args) {
        for (int seed = 0; seed < 400; seed++) {
            new RunTest(seed).run();
        }
        Check.done("RunTest");
    }

    private void run() {
        while (told.size() < MOST_CALLS) {
            switch (random.nextInt(12)) {
                case 0, 1, 2 -> property();
                case 3, 4 -> letters();
                case 5 -> rows();
                case 6 -> classes();
                case 7 -> flops();
                case 8 -> designTexts();
                case 9 -> designCalls();
                case 10 -> looks();
                default -> odd();
            }
        }
    }

    /** One call of both; behind the 512th nothing is looked at. */
    private String call(String name, int... numbers) {
        if (told.size() >= MOST_CALLS) {
            return "";
        }
        StringBuilder said = new StringBuilder(name);
        for (int n : numbers) {
            said.append(' ').append(n);
        }
        told.add(said.toString());
        String due = Calls.outcome(model, name, numbers);
        String answer = Calls.outcome(bench, name, numbers);
        Check.same(due.equals(answer) ? name : String.join(", ", told), due, answer);
        return due;
    }

    /** A number below this, or now and then a wrong one. */
    private int below(int n) {
        return random.nextInt(20) == 0 ? WRONG[random.nextInt(WRONG.length)] : random.nextInt(n);
    }

    private void put(String text) {
        for (int at = 0; at < text.length();) {
            int signs = 0;
            for (int k = 0; k < 4 && at < text.length(); k++) {
                // A byte that is left out may stand anywhere.
                signs |= random.nextInt(12) == 0 ? 0 : text.charAt(at++) << 8 * k;
            }
            call("put", signs);
        }
    }

    private void property() {
        String text = maker.propertyUpTo(3, random.nextInt(3) == 0 ? 12 : 6, 90).text();
        put(random.nextInt(4) == 0 ? FaultTest.changed(maker, text) : text);
        call("read", below(2));
        letters();
    }

    private void letters() {
        if (random.nextInt(4) == 0) {
            call("clear");
        }
        for (int n = random.nextInt(8); n > 0; n--) {
            call("letter", below(1 << signals));
        }
        for (int what = 0; what < 3; what++) {
            call("word", what);
        }
    }

    private void rows() {
        int p = below(2);
        for (int n = 0; n < 3; n++) {
            int i = below(5);
            int j = i + random.nextInt(4);
            call("row", p, i, j);
            call("goesOn", p, i, j);
            call("classOf", p, i, j);
        }
    }

    private void classes() {
        int p = below(2);
        call("classes", p);
        for (int n = 0; n < 3; n++) {
            int c = below(6);
            call("kind", p, c);
            call("classBehind", p, c, below(64));
        }
    }

    private void flops() {
        int p = below(2);
        String count = call("flops", p);
        int most = count.matches("\\d+") ? Math.min(20, Integer.parseInt(count)) : 0;
        for (int k = 0; k <= most; k++) {
            call("flop", p, k);
        }
        call("flop", p, below(1));
    }

    private void designTexts() {
        String text = DesignReadTest.designText(random);
        boolean asNumbers = random.nextBoolean();
        String told = asNumbers ? DesignModel.ofText(text).numbers() : text;
        if (told.length() > 140) {
            return;
        }
        put(random.nextInt(4) == 0 ? DesignReadTest.changed(random, told, asNumbers) : told);
        call(asNumbers ? "readNumbers" : "readDesign");
        found();
        design();
    }

    private void design() {
        for (int n = 0; n < 4; n++) {
            call("has", below(9));
            call("number", below(60));
        }
    }

    /** Behind each of them the run, if there was one, and the numbers are asked. */
    private void designCalls() {
        for (int n = 1 + random.nextInt(5); n > 0; n--) {
            switch (random.nextInt(8)) {
                case 0 -> call("design", 1 + below(3), below(6));
                case 1, 2, 3 -> call("gate", below(8), below(8));
                case 4, 5 -> call("latch", below(2), below(8), random.nextInt(2));
                default -> call("signal", below(6), below(8));
            }
            call("run", 0, below(3));
            call("number", below(60));
        }
        design();
    }

    private void looks() {
        if (random.nextBoolean()) {
            call("search", below(2), 1 + below(3));
        } else {
            call("differ", 1 + below(3), 1 + below(3));
        }
        found();
        if (random.nextBoolean()) {
            designCalls();
        } else {
            designTexts();
        }
    }

    private void found() {
        for (int t = 0; t < 3; t++) {
            call("run", below(3), below(3));
            call("witness", below(3));
        }
    }

    /** Calls at a wrong time, or with what no other call has left for them. */
    private void odd() {
        switch (random.nextInt(5)) {
            case 0 -> call("put", SIGNS[random.nextInt(SIGNS.length)]);
            case 1 -> call("end", below(9));
            case 2 -> call(random.nextBoolean() ? "readDesign" : "readNumbers");
            case 3 -> call("word", below(3));
            default -> found();
        }
    }
}
