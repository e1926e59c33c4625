import java.util.Random;

/** Promises 24 and 25: search and run. */
public final class SearchTest {
    public static void main(String[] args) {
        told();
        limits();
        counted();
        wrong();
        for (int seed = 0; seed < 700; seed++) {
            againstAllRows(seed);
        }
        Check.done("SearchTest");
    }

    private static void told() {
        AssertionBench bench = Text.bench("always a", "{1[*3]}|->!a");
        Text.readDesign(bench, "input x;input y;latch p 1;latch q 0;next p=x;next q=p;signal a=p|y;signal b=q;");
        Check.same("p is 1 at first, then what x was", 2, bench.search(0, 4));
        int[][] due = {{0, 1, 1}, {0, 2, 2}};
        for (int t = 0; t < 2; t++) {
            for (int what = 0; what < 3; what++) {
                Check.same("cycle " + t + ", " + what, due[t][what], bench.run(t, what));
            }
        }
        Check.fails("no cycle 2", IndexOutOfBoundsException.class, () -> bench.run(2, 0));
        Check.same("not in one cycle", 0, bench.search(0, 1));
        Check.fails("no run then", IllegalStateException.class, () -> bench.run(0, 0));
        Check.same("property 1 with the third", 3, bench.search(1, 4));
        Check.same("least inputs first", 0, bench.run(0, 0));
        Check.same("still none, as x there is not yet needed", 0, bench.run(1, 0));
        Check.same("y in the third", 2, bench.run(2, 0));
        Check.same("p was 1 at first, so q is then", 2, bench.run(1, 2));
        Check.same("the third letter", 1, bench.run(2, 1));
        Check.same("the word is left alone", 0, bench.word(0));
    }

    private static void limits() {
        AssertionBench bench = Text.bench("never {a[*9]}", "never {a[*6]}");
        Check.fails("k 0", IllegalArgumentException.class, () -> bench.search(0, 0));
        Check.fails("k below", IllegalArgumentException.class, () -> bench.search(0, Integer.MIN_VALUE));
        Check.fails("1 times 10", IllegalArgumentException.class, () -> bench.search(0, 10));
        Check.fails("1 times 13, small", IllegalArgumentException.class, () -> bench.search(1, 13));
        bench.design(2, 0);
        Check.fails("2 times 5", IllegalArgumentException.class, () -> bench.search(0, 5));
        Check.fails("2 times 7, small", IllegalArgumentException.class, () -> bench.search(1, 7));
        Check.fails("2 times 2 to the 30", IllegalArgumentException.class, () -> bench.search(0, 1 << 30));
        Check.fails("2 times a great k", IllegalArgumentException.class, () -> bench.search(1, Integer.MAX_VALUE));
        bench.design(3, 0);
        Check.fails("3 times 4", IllegalArgumentException.class, () -> bench.search(0, 4));
        Check.fails("3 times 5, small", IllegalArgumentException.class, () -> bench.search(1, 5));
        Check.fails("3 times 1431655766 wraps to 2", IllegalArgumentException.class, () -> bench.search(1, 1431655766));
        Check.same("3 times 3", 0, bench.search(0, 3));
        Check.same("3 times 4, small", 0, bench.search(1, 4));
        bench.design(1, 0);
        Check.same("1 times 9", 9, bench.search(0, 9));
        for (int t = 0; t < 9; t++) {
            Check.same("cycle " + t, 1, bench.run(t, 0));
        }
        Check.same("1 times 12, small", 6, bench.search(1, 12));
        bench.design(2, 0);
        Check.same("2 times 6, small", 6, bench.search(1, 6));
    }

    private static void counted() {
        AssertionBench bench = Text.bench("a", "b");
        Check.same("first", 1, bench.search(0, 1));
        Check.same("second", 1, bench.differ(2, 1));
        Check.fails("throws", IndexOutOfBoundsException.class, () -> bench.search(2, 1));
        Check.fails("throws", IllegalArgumentException.class, () -> bench.search(0, 0));
        Check.fails("throws", IllegalArgumentException.class, () -> bench.differ(0, 1));
        Check.same("third", 1, bench.search(1, 1));
        Check.same("fourth", 1, bench.differ(2, 1));
        Check.same("fifth", 1, bench.search(0, 1));
        Check.fails("a sixth", UnsupportedOperationException.class, () -> bench.search(0, 1));
        Check.fails("a sixth", UnsupportedOperationException.class, () -> bench.differ(1, 1));
        Check.fails("no property ahead of that", IndexOutOfBoundsException.class, () -> bench.search(-1, 1));
        Check.fails("k ahead of that", IllegalArgumentException.class, () -> bench.search(0, 0));
        Check.same("the run stays", 0, bench.run(0, 0));
        Check.same("the witness stays", 1, bench.witness(0));
        Text.read(bench, 0, "a");
        Check.fails("ever", UnsupportedOperationException.class, () -> bench.search(0, 1));
    }

    private static void wrong() {
        AssertionBench bench = Text.bench("a");
        Check.fails("none is found", IllegalStateException.class, () -> bench.run(-1, 9));
        Check.fails("no property", IndexOutOfBoundsException.class, () -> bench.search(2, 0));
        Check.fails("no property", IndexOutOfBoundsException.class, () -> bench.search(-1, 99));
        bench.search(0, 2);
        for (int t : new int[] {-1, 1, Integer.MAX_VALUE}) {
            Check.fails("cycle " + t, IndexOutOfBoundsException.class, () -> bench.run(t, 9));
        }
        for (int what : new int[] {-1, 3, Integer.MIN_VALUE}) {
            Check.fails("what " + what, IllegalArgumentException.class, () -> bench.run(0, what));
        }
        Check.same("inputs", 0, bench.run(0, 0));
        Check.same("letter", 0, bench.run(0, 1));
        Check.same("latches", 0, bench.run(0, 2));
    }

    /** Rows of inputs in the order of the document, one by one, asked of the model. */
    private static void againstAllRows(int seed) {
        Maker maker = new Maker(seed, 3);
        Model.Prop p = maker.propertyUpTo(3, 6, 120);
        String text = DesignReadTest.designText(new Random(seed));
        DesignModel design = DesignModel.ofText(text);
        int most = design.inputs == 1 ? 5 : design.inputs == 2 ? 3 : 2;
        int k = 1 + maker.below(most);
        AssertionBench bench = Text.bench(p.text());
        Text.readDesign(bench, text);
        String what = p.text() + " , " + text + " , " + k;
        int found = bench.search(0, k);
        int[] due = first(p, design, k);
        Check.same(what, due.length, found);
        if (due.length > 0 && found == due.length) {
            int[] ahead = new int[found];
            int[] letters = design.run(due, ahead);
            for (int t = 0; t < found; t++) {
                Check.same(what + " inputs " + t, due[t], bench.run(t, 0));
                Check.same(what + " letter " + t, letters[t], bench.run(t, 1));
                Check.same(what + " latches " + t, ahead[t], bench.run(t, 2));
            }
        }
    }

    /** The first row of inputs in the order of the document that makes it fail; none if there is none. */
    static int[] first(Model.Prop p, DesignModel design, int k) {
        for (int length = 1; length <= k; length++) {
            for (int n = 0; n < 1 << design.inputs * length; n++) {
                int[] row = new int[length];
                for (int t = 0; t < length; t++) {
                    row[t] = n >> design.inputs * (length - 1 - t) & (1 << design.inputs) - 1;
                }
                if (Model.fails(p, design.run(row, new int[length]))) {
                    return row;
                }
            }
        }
        return new int[0];
    }
}
