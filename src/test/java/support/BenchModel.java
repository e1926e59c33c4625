import java.util.Arrays;
import java.util.List;
import java.util.NoSuchElementException;

/** A bench that says the promises over again, each call in its plainest form; its answers are made anew each time. */
final class BenchModel {
    private String text = "";
    private final Model.Prop[] properties = {TextModel.read("1"), TextModel.read("1")};
    private int[] word = {};
    private DesignModel design = new DesignModel(1, 0);
    private int[] runInputs = {};
    private int[] witness = {};
    private int looks;

    private static void require(boolean holds, RuntimeException otherwise) {
        if (!holds) {
            throw otherwise;
        }
    }

    private static boolean within(int n, int least, int greatest) {
        return n >= least && n <= greatest;
    }

    private static void requireProperty(int p) {
        require(within(p, 0, 1), new IndexOutOfBoundsException());
    }

    private static void requireArgument(boolean holds) {
        require(holds, new IllegalArgumentException());
    }

    private static void requireSupport(boolean holds) {
        require(holds, new UnsupportedOperationException());
    }

    int put(int signs) {
        StringBuilder more = new StringBuilder();
        for (int bits = signs, k = 0; k < 4; k++, bits >>>= 8) {
            requireArgument((bits & 255) == 0 || within(bits & 255, 32, 126));
            more.append((bits & 255) == 0 ? "" : String.valueOf((char) (bits & 255)));
        }
        requireSupport(text.length() + more.length() <= 400);
        text += more;
        return text.length();
    }

    void end(int n) {
        requireArgument(within(n, 0, text.length()));
        text = text.substring(0, n);
    }

    private String textTaken() {
        String taken = text;
        text = "";
        return taken;
    }

    int read(int p) {
        requireProperty(p);
        try {
            properties[p] = TextModel.read(textTaken());
        } catch (DesignModel.Fault fault) {
            return fault.place;
        }
        word = new int[0];
        runInputs = new int[0];
        witness = new int[0];
        return -1;
    }

    int letter(int v) {
        requireArgument(within(v, 0, 63));
        requireSupport(word.length < 24);
        word = Arrays.copyOf(word, word.length + 1);
        word[word.length - 1] = v;
        return (Model.fails(properties[0], word) ? 1 : 0) + (Model.fails(properties[1], word) ? 2 : 0);
    }

    void clear() {
        word = new int[0];
    }

    int word(int what) {
        requireArgument(within(what, 0, 2));
        for (int n = 1; n <= word.length && what > 0; n++) {
            if (Model.fails(properties[what - 1], Arrays.copyOf(word, n))) {
                return n;
            }
        }
        return what == 0 ? word.length : 0;
    }

    private Model.Seq sequence(int p) {
        List<Model.Seq> all = properties[p].sequences();
        require(!all.isEmpty(), new IllegalStateException());
        return all.get(0);
    }

    private Rest rest(int p, int i, int j) {
        requireProperty(p);
        requireArgument(within(i, 0, j) && within(j, i, word.length));
        return Rest.of(sequence(p)).behind(word, i, j);
    }

    boolean row(int p, int i, int j) {
        return rest(p, i, j).isRow();
    }

    boolean goesOn(int p, int i, int j) {
        return rest(p, i, j).goesOn();
    }

    private ClassModel classModel(int p) {
        requireProperty(p);
        requireSupport(sequence(p).weight() <= 6);
        return new ClassModel(sequence(p));
    }

    int classes(int p) {
        return classModel(p).count();
    }

    int classOf(int p, int i, int j) {
        rest(p, i, j);
        return classModel(p).of(word, i, j);
    }

    int classBehind(int p, int c, int letter) {
        ClassModel all = classModel(p);
        requireArgument(within(c, 0, all.count() - 1) && within(letter, 0, 63));
        return all.behind(c, letter);
    }

    int kind(int p, int c) {
        ClassModel all = classModel(p);
        requireArgument(within(c, 0, all.count() - 1));
        return all.kind(c);
    }

    private String flopsTold(int p) {
        requireProperty(p);
        requireSupport(properties[p].small());
        return new Model.Word(word).flops(properties[p]);
    }

    int flops(int p) {
        return flopsTold(p).length();
    }

    boolean flop(int p, int k) {
        String told = flopsTold(p);
        require(within(k, 0, told.length() - 1), new NoSuchElementException());
        return told.charAt(k) == '1';
    }

    private int taken(DesignModel read) {
        design = read;
        runInputs = new int[0];
        return -1;
    }

    int readDesign() {
        try {
            return taken(DesignModel.ofText(textTaken()));
        } catch (DesignModel.Fault fault) {
            return fault.place;
        }
    }

    int readNumbers() {
        try {
            return taken(DesignModel.ofNumbers(textTaken()));
        } catch (DesignModel.Fault fault) {
            return fault.place;
        }
    }

    int number(int k) {
        require(k >= 0, new IndexOutOfBoundsException());
        String numbers = design.numbers();
        return k < numbers.length() ? numbers.charAt(k) : -1;
    }

    int has(int what) {
        requireArgument(within(what, 0, 8));
        return switch (what) {
            case 0 -> design.inputs;
            case 1 -> design.latches;
            case 2 -> design.gates.size();
            default -> design.signals[what - 3];
        };
    }

    void design(int inputs, int latches) {
        requireArgument(within(inputs, 1, 3) && within(latches, 0, 5));
        taken(new DesignModel(inputs, latches));
    }

    private void requireLiteral(int literal) {
        requireArgument(within(literal, 0, 2 * (design.inputs + design.latches + design.gates.size()) + 1));
    }

    int gate(int one, int two) {
        requireLiteral(one);
        requireLiteral(two);
        requireSupport(design.gates.size() < 60);
        runInputs = new int[0];
        return design.gate(one, two) / 2;
    }

    void latch(int k, int next, boolean first) {
        requireArgument(within(k, 0, design.latches - 1));
        requireLiteral(next);
        design.nexts[k] = next;
        design.firsts[k] = first ? 1 : 0;
        runInputs = new int[0];
    }

    void signal(int k, int literal) {
        requireArgument(within(k, 0, 5));
        requireLiteral(literal);
        design.signals[k] = literal;
        runInputs = new int[0];
    }

    private void look(int width, int k, boolean small) {
        requireArgument(k >= 1 && Math.multiplyFull(width, k) <= (small ? 12 : 9));
        requireSupport(looks < 5);
        looks++;
    }

    int search(int p, int k) {
        requireProperty(p);
        look(design.inputs, k, properties[p].small());
        runInputs = SearchTest.first(properties[p], design, k);
        return runInputs.length;
    }

    int run(int t, int what) {
        require(runInputs.length > 0, new IllegalStateException());
        require(within(t, 0, runInputs.length - 1), new IndexOutOfBoundsException());
        requireArgument(within(what, 0, 2));
        int[] latches = new int[runInputs.length];
        int[] letters = design.run(runInputs, latches);
        return what == 0 ? runInputs[t] : what == 1 ? letters[t] : latches[t];
    }

    int differ(int n, int k) {
        requireArgument(within(n, 1, 3));
        look(n, k, properties[0].small() && properties[1].small());
        witness = DifferTest.first(properties[0], properties[1], n, k);
        return witness.length;
    }

    int witness(int t) {
        require(witness.length > 0, new IllegalStateException());
        require(within(t, 0, witness.length - 1), new IndexOutOfBoundsException());
        return witness[t];
    }
}
