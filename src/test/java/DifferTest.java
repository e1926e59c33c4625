/** Promises 26 and 27: differ and witness. */
public final class DifferTest {
    public static void main(String[] args) {
        told();
        limits();
        wrong();
        for (int seed = 0; seed < 700; seed++) {
            againstAllWords(seed);
        }
        Check.done("DifferTest");
    }

    private static void told() {
        AssertionBench bench = Text.bench("always a -> next b", "never {a;!b}");
        Check.same("two ways to say it", 0, bench.differ(2, 6));
        Check.fails("no witness", IllegalStateException.class, () -> bench.witness(0));
        Text.read(bench, 1, "never {a;!b;b}");
        Check.same("they differ", 2, bench.differ(2, 4));
        Check.same("the least first letter", 1, bench.witness(0));
        Check.same("then the least second one", 0, bench.witness(1));
        Check.fails("no third", IndexOutOfBoundsException.class, () -> bench.witness(2));
        Check.same("not with one letter", 0, bench.differ(2, 1));
        Check.fails("no witness then", IllegalStateException.class, () -> bench.witness(0));
        Check.same("without b", 2, bench.differ(1, 4));
        Text.read(bench, 0, "c");
        Text.read(bench, 1, "c & !d");
        Check.same("d is below no letter of three signals", 0, bench.differ(3, 3));
        Check.same("the word is left alone", 0, bench.word(0));
    }

    private static void limits() {
        AssertionBench bench = Text.bench("never {a[*6]}", "never {a[*7]}");
        int[][] wrong = {{0, 1}, {4, 1}, {-1, 1}, {1, 0}, {1, -1}, {1, 10}, {2, 5}, {3, 4}, {2, 1 << 30},
            {3, 1431655766}, {Integer.MAX_VALUE, 1}, {1, Integer.MAX_VALUE}, {3, Integer.MIN_VALUE}};
        for (int[] w : wrong) {
            Check.fails("differ", IllegalArgumentException.class, () -> bench.differ(w[0], w[1]));
        }
        Check.same("one is not small: 9", 6, bench.differ(1, 9));
        for (int t = 0; t < 6; t++) {
            Check.same("letter " + t, 1, bench.witness(t));
        }
        Check.same("3 times 3", 0, bench.differ(3, 3));
        Text.read(bench, 1, "1");
        Check.fails("1 times 13", IllegalArgumentException.class, () -> bench.differ(1, 13));
        Check.fails("2 times 7", IllegalArgumentException.class, () -> bench.differ(2, 7));
        Check.fails("3 times 5", IllegalArgumentException.class, () -> bench.differ(3, 5));
        Check.same("both small: 12", 6, bench.differ(1, 12));
        Check.same("both small: 2 times 6", 6, bench.differ(2, 6));
        Check.same("both small: 3 times 4", 0, bench.differ(3, 4));
        Check.fails("a sixth", UnsupportedOperationException.class, () -> bench.differ(1, 1));
        Check.fails("a wrong sixth", IllegalArgumentException.class, () -> bench.differ(0, 1));
    }

    private static void wrong() {
        AssertionBench bench = Text.bench("a");
        Check.fails("there is none", IllegalStateException.class, () -> bench.witness(-1));
        bench.differ(1, 2);
        for (int t : new int[] {-1, 1, Integer.MAX_VALUE, Integer.MIN_VALUE}) {
            Check.fails("letter " + t, IndexOutOfBoundsException.class, () -> bench.witness(t));
        }
        Check.same("letter 0", 0, bench.witness(0));
        bench.search(0, 1);
        bench.letter(3);
        bench.design(2, 2);
        Check.same("it stays", 0, bench.witness(0));
        Check.fails("a call that throws", IllegalArgumentException.class, () -> bench.differ(0, 0));
        Check.same("it stays still", 0, bench.witness(0));
    }

    private static void againstAllWords(int seed) {
        int n = 1 + seed % 3;
        Maker maker = new Maker(seed, n);
        Model.Prop zero = maker.propertyUpTo(2, 6, 120);
        Model.Prop one = maker.propertyUpTo(2, 6, 120);
        int k = 1 + maker.below(n == 1 ? 5 : n == 2 ? 3 : 2);
        AssertionBench bench = Text.bench(zero.text(), one.text());
        String what = zero.text() + " , " + one.text() + " , " + n + " " + k;
        int[] due = first(zero, one, n, k);
        int found = bench.differ(n, k);
        Check.same(what, due.length, found);
        for (int t = 0; t < due.length && due.length == found; t++) {
            Check.same(what + " letter " + t, due[t], bench.witness(t));
        }
    }

    /** The witness; none if there is none. */
    static int[] first(Model.Prop zero, Model.Prop one, int n, int k) {
        for (int length = 1; length <= k; length++) {
            for (int w = 0; w < 1 << n * length; w++) {
                int[] word = new int[length];
                for (int t = 0; t < length; t++) {
                    word[t] = w >> n * (length - 1 - t) & (1 << n) - 1;
                }
                if (Model.fails(zero, word) != Model.fails(one, word)) {
                    return word;
                }
            }
        }
        return new int[0];
    }
}
