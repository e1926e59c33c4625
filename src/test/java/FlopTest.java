import java.util.NoSuchElementException;

/** Promises 14 and 15: flops and flop, told by hand; ModelTest has many more. */
public final class FlopTest {
    private static final int A = 1;
    private static final int B = 2;

    public static void main(String[] args) {
        told();
        small();
        wrong();
        Check.done("FlopTest");
    }

    private static int[] word(int... letters) {
        return letters;
    }

    private static void told() {
        Due.flops("1", word(A), "10", "00");
        Due.flops("a", word(0, A), "10", "01", "01");
        Due.flops("always a", word(A, 0), "100", "010", "011");
        Due.flops("a -> always b", word(0, A), "100", "000", "000");
        Due.flops("a -> always b", word(A | B, A), "100", "010", "011");
        Due.flops("next a", word(0, 0), "100", "010", "001");
        Due.flops("next[0] a", word(0), "10", "01");
        Due.flops("next[3] a", word(0, 0, 0, 0), "10000", "01000", "00100", "00010", "00001");
        Due.flops("always next[2] a", word(0, 0, A), "10000", "01100", "01110", "01110");
        Due.flops("(a until b)", word(A, B, A), "100", "010", "000", "000");
        Due.flops("(a before b)", word(0, A, B), "100", "010", "000", "000");
        Due.flops("(a before b)", word(B, A), "100", "011", "001");
        Due.flops("(a and next b)", word(A, A), "100", "010", "001");
        // {a;b} has the classes of no letters, the dead one, a, and a b: two go on and are no rows.
        Due.flops("{a;b}", word(A, B, A), "1000", "0010", "0000", "0000");
        Due.flops("{a;b}", word(B), "1000", "0001");
        Due.flops("always {a;b}", word(A, A | B, 0), "10000", "01010", "01010", "01001");
        // {a}|->p has two classes that go on: that of no letters, and that of a.
        Due.flops("{a}|->b", word(A, B), "1000", "0011", "0001");
        Due.flops("{a}|->b", word(A | B, B), "1000", "0010", "0000");
        Due.flops("{a[*]}|=>b", word(A | B, A | B, B), "100", "010", "010", "000");
        // Of never each place counts, and the row of no letters behind the last one.
        Due.flops("never {a;b}", word(0, A, B), "10000", "01000", "01100", "01011");
        Due.flops("next never {a;b}", word(A, A, B), "100000", "010000", "001100", "001011");
        Due.flops("a -> never {b}", word(0, 0), "1000", "0000", "0000");
        Due.flops("{b[*]}", word(0), "10", "00");
    }

    private static void small() {
        AssertionBench bench = Text.bench("{a[*6]}|->{b}|->{a}|->{b}", "{a}|->{b}|->{a}|->{b}|->{a}");
        Check.same("four sequences of weight 6 at most", 2 + 7 + 2 + 2 + 1, bench.flops(0));
        Check.fails("five", UnsupportedOperationException.class, () -> bench.flops(1));
        Text.read(bench, 1, "{a}|->{b[*7]}");
        Check.fails("one of weight 7", UnsupportedOperationException.class, () -> bench.flops(1));
        Text.read(bench, 1, "{a}|->{{{b}[*2]}[*3]}");
        Check.same("those within others don't count", 2 + 2 + 6, bench.flops(1));
        Text.read(bench, 1, "(((a until b) and (c before d)) and always next[9] a)");
        Check.same("none is small", 2 + 1 + 1 + 1 + 9, bench.flops(1));
    }

    private static void wrong() {
        AssertionBench bench = Text.bench("always a", "{a[*7]}");
        Text.letters(bench, A);
        for (int p : new int[] {-1, 2, Integer.MIN_VALUE}) {
            Check.fails("flops", IndexOutOfBoundsException.class, () -> bench.flops(p));
            Check.fails("flop", IndexOutOfBoundsException.class, () -> bench.flop(p, -1));
        }
        Check.fails("not small", UnsupportedOperationException.class, () -> bench.flops(1));
        Check.fails("not small", UnsupportedOperationException.class, () -> bench.flop(1, -1));
        Check.fails("not small", UnsupportedOperationException.class, () -> bench.flop(1, 0));
        for (int k : new int[] {-1, 3, Integer.MAX_VALUE, Integer.MIN_VALUE}) {
            Check.fails("flop " + k, NoSuchElementException.class, () -> bench.flop(0, k));
        }
        Check.holds("it began", bench.flop(0, 1));
        Check.holds("there is a letter", !bench.flop(0, 0));
        bench.clear();
        Check.holds("there is none", bench.flop(0, 0) && !bench.flop(0, 1) && !bench.flop(0, 2));
    }
}
