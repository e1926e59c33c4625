/** Promise 1: a new object. */
public final class NewObjectTest {
    public static void main(String[] args) {
        AssertionBench bench = new AssertionBench();
        Check.same("NONE", -1, AssertionBench.NONE);
        Check.same("the empty text grows from 0", 1, bench.put('a'));
        bench.end(0);
        Check.same("no word", 0, bench.word(0));
        Check.same("property 0 has not failed", 0, bench.word(1));
        Check.same("property 1 has not failed", 0, bench.word(2));
        Check.same("property 0 is 1", 2, bench.flops(0));
        Check.same("property 1 is 1", 2, bench.flops(1));
        Check.same("both are 1, which never fails", "000", Text.letters(bench, 0, 63, 21));
        Check.fails("1 has no sequence", IllegalStateException.class, () -> bench.row(0, 0, 0));
        Check.fails("1 has no sequence", IllegalStateException.class, () -> bench.row(1, 0, 0));
        Check.same("one input", 1, bench.has(0));
        Check.same("no latches", 0, bench.has(1));
        Check.same("no gates", 0, bench.has(2));
        for (int what = 3; what <= 8; what++) {
            Check.same("signal " + (what - 3) + " is the input", 2, bench.has(what));
        }
        Check.same("as numbers", "aag 1 1 0 6 0 2 2 2 2 2 2 2", Text.numbers(bench));
        Check.fails("no run", IllegalStateException.class, () -> bench.run(0, 0));
        Check.fails("no witness", IllegalStateException.class, () -> bench.witness(0));
        Check.same("no differences", 0, bench.differ(1, 3));
        Check.same("the empty text's fault is its end", 0, bench.read(0));
        Check.done("NewObjectTest");
    }
}
