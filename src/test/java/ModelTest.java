import java.util.Arrays;

/** Promises 4 to 9, 14, 15: properties made by the grammar, against the document's definitions. */
public final class ModelTest {
    public static void main(String[] args) {
        for (int seed = 0; seed < 1500; seed++) {
            words(new Maker(seed, 1 + seed % 3), seed % 2 == 0 ? 6 : 14);
        }
        for (int seed = 0; seed < 60; seed++) {
            longWords(new Maker(30000 + seed, 1 + seed % 6));
        }
        for (int seed = 0; seed < 1500; seed++) {
            rows(new Maker(10000 + seed, 1 + seed % 3), 4 + seed % 20);
        }
        for (int seed = 0; seed < 1200; seed++) {
            flops(new Maker(20000 + seed, 1 + seed % 3));
        }
        Check.done("ModelTest");
    }

    private static void words(Maker maker, int weight) {
        Model.Prop zero = maker.propertyUpTo(3, weight, 200);
        Model.Prop one = maker.propertyUpTo(2, weight, 200);
        AssertionBench bench = Text.bench(zero.text(), one.text());
        for (int n = 0; n < 6; n++) {
            int[] word = maker.word(1 + maker.below(9));
            bench.clear();
            int firstZero = 0;
            int firstOne = 0;
            for (int k = 0; k < word.length; k++) {
                int[] sofar = Arrays.copyOf(word, k + 1);
                boolean failsZero = Model.fails(zero, sofar);
                boolean failsOne = Model.fails(one, sofar);
                firstZero = failsZero && firstZero == 0 ? k + 1 : firstZero;
                firstOne = failsOne && firstOne == 0 ? k + 1 : firstOne;
                String what = zero.text() + " , " + one.text() + " : " + Arrays.toString(sofar);
                Check.same(what, (failsZero ? 1 : 0) + (failsOne ? 2 : 0), bench.letter(word[k]));
                Check.same(what + " first", firstZero, bench.word(1));
                Check.same(what + " first", firstOne, bench.word(2));
            }
        }
    }

    /** Weights up to the greatest, and words of all the letters that there may be. */
    private static void longWords(Maker maker) {
        Model.Prop p = maker.propertyUpTo(5, 40, 400);
        AssertionBench bench = Text.bench(p.text());
        int[] word = maker.word(24);
        for (int k = 0; k < word.length; k++) {
            int[] sofar = Arrays.copyOf(word, k + 1);
            String what = p.text() + " : " + Arrays.toString(sofar);
            Check.same(what, Model.fails(p, sofar) ? 1 : 0, bench.letter(word[k]));
        }
    }

    private static void rows(Maker maker, int weight) {
        Model.Seq s = maker.sequenceUpTo(weight);
        AssertionBench bench = Text.bench("{" + s.text() + "}");
        for (int n = 0; n < 4; n++) {
            int[] word = maker.word(1 + maker.below(7));
            bench.clear();
            for (int v : word) {
                bench.letter(v);
            }
            for (int i = 0; i <= word.length; i++) {
                for (int j = i; j <= word.length; j++) {
                    String what = s.text() + " : " + Arrays.toString(Arrays.copyOfRange(word, i, j));
                    Check.same(what + " row", Model.row(s, word, i, j), bench.row(0, i, j));
                    Check.same(what + " goes on", Model.goesOn(s, word, i, j), bench.goesOn(0, i, j));
                }
            }
        }
    }

    private static void flops(Maker maker) {
        Model.Prop p = maker.propertyUpTo(3, 6, 200);
        AssertionBench bench = Text.bench(p.text());
        if (!p.small()) {
            Check.fails(p.text() + " is not small", UnsupportedOperationException.class, () -> bench.flops(0));
            Check.fails(p.text() + " is not small", UnsupportedOperationException.class, () -> bench.flop(0, -1));
            return;
        }
        int[] word = maker.word(maker.below(8));
        for (int k = 0; k <= word.length; k++) {
            String due = new Model.Word(Arrays.copyOf(word, k)).flops(p);
            int count = bench.flops(0);
            Check.same(p.text() + " : " + Arrays.toString(Arrays.copyOf(word, k)), due, Text.flops(bench, 0));
            Check.fails("one flip-flop more", java.util.NoSuchElementException.class, () -> bench.flop(0, count));
            if (k < word.length) {
                bench.letter(word[k]);
            }
        }
    }
}
