import java.util.NoSuchElementException;

/** Promises 14 and 15: flops and flop, told by hand; ModelTest has many more. */
public final class FlopTest {
    private static final int A = 1;
    private static final int B = 2;

    public static void main(String[] args) {
        told();
        small();
        wrong();
        Check.done("FlopTest");
    }

    /** All flip-flops behind each letter, from none on. */
    private static void due(String property, int[] word, String... flops) {
        AssertionBench bench = Text.bench("1", property);
        for (int k = 0; k <= word.length; k++) {
            StringBuilder out = new StringBuilder();
            for (int f = 0; f < bench.flops(1); f++) {
                out.append(bench.flop(1, f) ? '1' : '0');
            }
            Check.same(property + " behind " + k + " letters", flops[k], out.toString());
            if (k < word.length) {
                bench.letter(word[k]);
            }
        }
    }

    private static int[] word(int... letters) {
        return letters;
    }

    private static void told() {
        due("1", word(A), "10", "00");
        due("a", word(0, A), "10", "01", "01");
        due("always a", word(A, 0), "100", "010", "011");
        due("a -> always b", word(0, A), "100", "000", "000");
        due("a -> always b", word(A | B, A), "100", "010", "011");
        due("next a", word(0, 0), "100", "010", "001");
        due("next[0] a", word(0), "10", "01");
        due("next[3] a", word(0, 0, 0, 0), "10000", "01000", "00100", "00010", "00001");
        due("always next[2] a", word(0, 0, A), "10000", "01100", "01110", "01110");
        due("(a until b)", word(A, B, A), "100", "010", "000", "000");
        due("(a before b)", word(0, A, B), "100", "010", "000", "000");
        due("(a before b)", word(B, A), "100", "011", "001");
        due("(a and next b)", word(A, A), "100", "010", "001");
        // {a;b} has the classes of no letters, the dead one, a, and a b: two go on and are no rows.
        due("{a;b}", word(A, B, A), "1000", "0010", "0000", "0000");
        due("{a;b}", word(B), "1000", "0001");
        due("always {a;b}", word(A, A | B, 0), "10000", "01010", "01010", "01001");
        // {a}|->p has two classes that go on: that of no letters, and that of a.
        due("{a}|->b", word(A, B), "1000", "0011", "0001");
        due("{a}|->b", word(A | B, B), "1000", "0010", "0000");
        due("{a[*]}|=>b", word(A | B, A | B, B), "100", "010", "010", "000");
        // Of never each place counts, and the row of no letters behind the last one.
        due("never {a;b}", word(0, A, B), "10000", "01000", "01100", "01011");
        due("next never {a;b}", word(A, A, B), "100000", "010000", "001100", "001011");
        due("a -> never {b}", word(0, 0), "1000", "0000", "0000");
        due("{b[*]}", word(0), "10", "00");
    }

    private static void small() {
        AssertionBench bench = Text.bench("{a[*6]}|->{b}|->{a}|->{b}", "{a}|->{b}|->{a}|->{b}|->{a}");
        Check.same("four sequences of weight 6 at most", 2 + 7 + 2 + 2 + 1, bench.flops(0));
        Check.fails("five", UnsupportedOperationException.class, () -> bench.flops(1));
        Text.read(bench, 1, "{a}|->{b[*7]}");
        Check.fails("one of weight 7", UnsupportedOperationException.class, () -> bench.flops(1));
        Text.read(bench, 1, "{a}|->{{{b}[*2]}[*3]}");
        Check.same("those within others don't count", 2 + 2 + 6, bench.flops(1));
        Text.read(bench, 1, "(((a until b) and (c before d)) and always next[9] a)");
        Check.same("none is small", 2 + 1 + 1 + 1 + 9, bench.flops(1));
    }

    private static void wrong() {
        AssertionBench bench = Text.bench("always a", "{a[*7]}");
        Text.letters(bench, A);
        for (int p : new int[] {-1, 2, Integer.MIN_VALUE}) {
            Check.fails("flops", IndexOutOfBoundsException.class, () -> bench.flops(p));
            Check.fails("flop", IndexOutOfBoundsException.class, () -> bench.flop(p, -1));
        }
        Check.fails("not small", UnsupportedOperationException.class, () -> bench.flops(1));
        Check.fails("not small", UnsupportedOperationException.class, () -> bench.flop(1, -1));
        Check.fails("not small", UnsupportedOperationException.class, () -> bench.flop(1, 0));
        for (int k : new int[] {-1, 3, Integer.MAX_VALUE, Integer.MIN_VALUE}) {
            Check.fails("flop " + k, NoSuchElementException.class, () -> bench.flop(0, k));
        }
        Check.holds("it began", bench.flop(0, 1));
        Check.holds("there is a letter", !bench.flop(0, 0));
        bench.clear();
        Check.holds("there is none", bench.flop(0, 0) && !bench.flop(0, 1) && !bench.flop(0, 2));
    }
}
