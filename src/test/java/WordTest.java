/** Promises 5, 6 and 7: letter, clear and word; each kind of property, told by hand. */
public final class WordTest {
    private static final int A = 1;
    private static final int B = 2;
    private static final int C = 4;

    public static void main(String[] args) {
        letters();
        conditions();
        sequences();
        implications();
        times();
        open();
        firstFailing();
        longest();
        Check.done("WordTest");
    }

    private static void letters() {
        AssertionBench bench = new AssertionBench();
        for (int wrong : new int[] {-1, 64, 1000, Integer.MIN_VALUE, Integer.MAX_VALUE}) {
            Check.fails("letter " + wrong, IllegalArgumentException.class, () -> bench.letter(wrong));
        }
        Check.same("none came", 0, bench.word(0));
        for (int k = 0; k < 24; k++) {
            Check.same("letter " + k, 0, bench.letter(k % 2 == 0 ? 63 : 0));
            Check.same("length", k + 1, bench.word(0));
        }
        Check.fails("a 25th", UnsupportedOperationException.class, () -> bench.letter(0));
        Check.fails("a wrong 25th", IllegalArgumentException.class, () -> bench.letter(64));
        Check.same("still 24", 24, bench.word(0));
        bench.clear();
        Check.same("none", 0, bench.word(0));
        Check.same("one again", 0, bench.letter(5));
        bench.clear();
        bench.clear();
        Check.same("none still", 0, bench.word(0));
    }

    private static void conditions() {
        Due.letters("0", "a", A);
        Due.letters("1", "a", B);
        Due.letters("01", "next a", B, B);
        Due.letters("11", "0", A, A);
        Due.letters("00", "1", 0, 0);
        Due.letters("0", "a & b | c", C);
        Due.letters("1", "a & b | c", A);
        Due.letters("0", "a & !b | !c & 1", A | C);
        Due.letters("1", "!f", 32);
        Due.letters("0", "!f", 31);
        Due.letters("1", "!1", 0);
    }

    private static void sequences() {
        Due.letters("00", "{a;b}", A, B);
        Due.letters("01", "{a;b}", A, A);
        Due.letters("001", "{a;b;c}", A, B, B);
        Due.letters("0000", "{a}", A, 0, 0, 0);
        Due.letters("0000", "{a[*]}", 0, 0, 0, 0);
        Due.letters("1", "{a[+]}", 0);
        Due.letters("0000", "{a[->2]}", 0, 0, 0, 0);
        Due.letters("01", "{a;0}", A, A);
        Due.letters("00", "{a;0;a}|->b", A, A);
        Due.letters("01", "{1:a:b ; c}", A | B, B);
        Due.letters("1", "{a && {b;c}}", A | B);
        Due.letters("1", "{a:b}", A);
        Due.letters("0", "{a:b}", A | B);
        Due.letters("011", "never {a;b}", A, B, 0);
        Due.letters("0001", "never {a;b}", 0, 0, A, B);
        Due.letters("0000", "never {1[*0]}", A, A, A, A);
        Due.letters("0", "{1[*0]}", 0);
        Due.letters("001", "{a[*2..3]}|=>b", A, A, A);
    }

    private static void implications() {
        Due.letters("01", "{a;b}|->c", A, B);
        Due.letters("00", "{a;b}|->c", A, B | C);
        Due.letters("001", "{a;b}|=>c", A, B, B);
        Due.letters("1", "{a[*]}|=>b", 0);
        Due.letters("0", "{a[*]}|->b", 0);
        Due.letters("01", "{a[*]}|=>b", A | B, A);
        Due.letters("0", "a->b", 0);
        Due.letters("1", "a->b", A);
        Due.letters("01", "a->next b", A, A);
        Due.letters("0001", "always a -> next[2] b", 0, A, 0, 0);
        Due.letters("011", "{1;1}|->{a}", A, B, 0);
    }

    private static void times() {
        Due.letters("0011", "always a", A, A, B, A);
        Due.letters("001", "always {a;b}|=>c", A, B, A);
        Due.letters("0001", "next[3] a", 0, 0, 0, 0);
        Due.letters("1", "next[0] a", 0);
        Due.letters("01", "next next[0] a", 0, 0);
        Due.letters("0000000001", "next[9] a", 0, 0, 0, 0, 0, 0, 0, 0, 0, 0);
        Due.letters("01", "always next a", A, 0);
    }

    private static void open() {
        Due.letters("000", "(a until b)", A, B, 0);
        Due.letters("01", "(a until b)", A, 0);
        Due.letters("00", "(a until b)", B, 0);
        Due.letters("000", "(a before b)", 0, A, B);
        Due.letters("01", "(a before b)", 0, B);
        Due.letters("1", "(a before b)", A | B);
        Due.letters("01", "(a before b)", 0, A | B);
        Due.letters("1", "(a and b)", A);
        Due.letters("1", "(a and b)", B);
        Due.letters("0", "(a and b)", A | B);
        Due.letters("001", "({a;1} and {1;b;c})", A, B, B);
        Due.letters("0001", "always ({a;b}|->c until b)", 0, A, A, B);
    }

    private static void longest() {
        Due.letters("1", "1->".repeat(133) + "0", 0);
        Due.letters("0", "1->".repeat(133) + "1", 0);
        Due.letters("01", "{a}|->".repeat(65) + "next b", A, 0);
        Due.letters("1", "{a}|->".repeat(66) + "{b}", A);
        int[] word = new int[24];
        Due.letters("0".repeat(15) + "1".repeat(9), "next[9] next[6] a", word);
        Due.letters("0".repeat(23) + "1", "next[9] next[9] next[5] a", word);
        Due.letters("0".repeat(24), "next[9] next[9] next[6] a", word);
        Due.letters("0".repeat(24), "next[9] ".repeat(40) + "a", word);
        Due.letters("0".repeat(23) + "1", "always {!a[*8];!a[*8];!a[*7];a}", word);
        Due.letters("0".repeat(24), "always {a[->9] ; b[->9]}", word);
    }

    private static void firstFailing() {
        AssertionBench bench = Text.bench("always a", "always b");
        Check.same("failing", "0233", Text.letters(bench, A | B, A, 0, A | B));
        Check.same("letters", 4, bench.word(0));
        Check.same("property 0 with the third", 3, bench.word(1));
        Check.same("property 1 with the second", 2, bench.word(2));
        for (int wrong : new int[] {-1, 3, Integer.MAX_VALUE, Integer.MIN_VALUE}) {
            Check.fails("what " + wrong, IllegalArgumentException.class, () -> bench.word(wrong));
        }
        bench.clear();
        Check.same("no letters", 0, bench.word(0));
        Check.same("not failed", 0, bench.word(1));
        Check.same("not failed", 0, bench.word(2));
        Check.same("as at first", "02", Text.letters(bench, A | B, A));
        bench.search(0, 2);
        bench.differ(2, 2);
        bench.clear();
        Check.same("clear leaves the run", 0, bench.run(0, 0));
        Check.same("clear leaves the witness", 1, bench.witness(0));
    }
}
