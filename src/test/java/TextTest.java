/** Promises 2, 3 and 4: put, end, and what read changes. */
public final class TextTest {
    public static void main(String[] args) {
        put();
        putWrong();
        end();
        read();
        readFault();
        readAgain();
        Check.done("TextTest");
    }

    private static void put() {
        AssertionBench bench = new AssertionBench();
        Check.same("nothing put", 0, bench.put(0));
        Check.same("four signs", 4, bench.put('{' | 'a' << 8 | ';' << 16 | 'b' << 24));
        Check.same("zeros are left out", 5, bench.put('}' << 16));
        Check.same("the lowest byte is first", -1, bench.read(0));
        Check.holds("a row a, b", Text.letters(bench, 1, 2).equals("00") && bench.row(0, 0, 2));
        Check.same("the text is empty then", 1, bench.put(126));
        Check.same("signs 32 and 126", 3, bench.put(126 << 8 | 32));
        for (int k = 0; k < 397 / 4; k++) {
            bench.put('a' | 'a' << 8 | 'a' << 16 | 'a' << 24);
        }
        Check.same("399 signs and one", 400, bench.put('a'));
        Check.same("none more is none too many", 400, bench.put(0));
        Check.fails("401 signs", UnsupportedOperationException.class, () -> bench.put('a'));
        Check.fails("401 signs and a wrong one", IllegalArgumentException.class, () -> bench.put('a' | 31 << 8));
        Check.same("still 400", 400, bench.put(0));
        bench.end(398);
        Check.fails("401 signs", UnsupportedOperationException.class, () -> bench.put('a' | 'a' << 8 | 'a' << 16));
        Check.same("nothing of those three came", 398, bench.put(0));
        Check.same("two more fit", 400, bench.put('a' | 'a' << 24));
    }

    private static void putWrong() {
        AssertionBench bench = new AssertionBench();
        bench.put('a');
        for (int wrong : new int[] {1, 31, 127, 128, 200, 255}) {
            for (int k = 0; k < 4; k++) {
                int signs = ('b' | 'b' << 8 | 'b' << 16 | 'b' << 24) & ~(255 << 8 * k) | wrong << 8 * k;
                Check.fails("sign " + wrong, IllegalArgumentException.class, () -> bench.put(signs));
            }
        }
        Check.fails("all bits", IllegalArgumentException.class, () -> bench.put(-1));
        Check.same("none of them came", 2, bench.put('b'));
    }

    private static void end() {
        AssertionBench bench = new AssertionBench();
        Text.put(bench, "a|b#");
        Check.refuses("above", IllegalArgumentException.class, () -> bench.end(5));
        Check.refuses("below", IllegalArgumentException.class, () -> bench.end(-1));
        Check.refuses("far below", IllegalArgumentException.class, () -> bench.end(Integer.MIN_VALUE));
        bench.end(4);
        Check.same("all four stay", 4, bench.put(0));
        bench.end(3);
        Check.same("the first three", 3, bench.put(0));
        Check.refuses("the fourth is gone", IllegalArgumentException.class, () -> bench.end(4));
        Check.same("they are a|b", -1, bench.read(0));
        Check.same("which fails of c", "1", Text.letters(bench, 4));
        bench.end(0);
        Check.refuses("an empty text has no first sign", IllegalArgumentException.class, () -> bench.end(1));
    }

    private static void read() {
        AssertionBench bench = new AssertionBench();
        Check.same("property 1", -1, Text.read(bench, 1, "always a"));
        Check.same("a fails nothing", 0, bench.letter(1));
        Check.same("b fails property 1", 2, bench.letter(2));
        bench.search(1, 2);
        bench.differ(1, 2);
        Check.same("a run", 0, bench.run(0, 0));
        Check.same("a witness", 0, bench.witness(0));
        Check.same("property 0", -1, Text.read(bench, 0, "b"));
        Check.same("no word", 0, bench.word(0));
        Check.same("not failed", 0, bench.word(2));
        Check.fails("no run", IllegalStateException.class, () -> bench.run(0, 0));
        Check.fails("no witness", IllegalStateException.class, () -> bench.witness(0));
        Check.same("property 1 is still there", 2, bench.letter(2));
        Check.same("empty text", 0, bench.put(0));
        Text.put(bench, "a");
        Check.fails("no property 2", IndexOutOfBoundsException.class, () -> bench.read(2));
        Check.fails("no property -1", IndexOutOfBoundsException.class, () -> bench.read(-1));
        Check.same("the text stays with a call that throws", 1, bench.put(0));
        Check.same("the word too", 1, bench.word(0));
    }

    private static void readFault() {
        AssertionBench bench = Text.bench("always a", "{a;b}");
        bench.search(0, 2);
        bench.differ(1, 3);
        bench.letter(0);
        Check.same("a fault", 2, Text.read(bench, 0, "a b"));
        Check.same("the text is empty all the same", 0, bench.put(0));
        Check.same("the word stays", 1, bench.word(0));
        Check.same("what it failed stays", 1, bench.word(1));
        Check.same("the run stays", 0, bench.run(0, 0));
        Check.same("the witness stays", 1, bench.witness(0));
        Check.same("a fault in the middle of a sequence", 4, Text.read(bench, 1, "{a;b"));
        Check.same("what it failed stays", 1, bench.word(2));
        bench.clear();
        Check.same("both properties stay", "011", Text.letters(bench, 1, 2, 0));
        Check.same("too great", 0, Text.read(bench, 1, "{{a;b}[*9];{b;c}[*9];{a;b}[*9]}"));
        bench.clear();
        Text.letters(bench, 1, 2);
        Check.holds("its rows stay", bench.row(1, 0, 2) && !bench.row(1, 0, 1));
    }

    private static void readAgain() {
        AssertionBench bench = new AssertionBench();
        String[] texts = {"{a[=9]&&b}|->c", "a", "{a;b}|=>{c}", "never{a[*3]}", "((a until b)and(c before d))", "next[3]a"};
        for (int round = 0; round < 3; round++) {
            for (String text : texts) {
                Check.same(text, -1, Text.read(bench, round % 2, text));
            }
        }
        Check.same("both are next[3] a, which fails with the fourth letter", "0003", Text.letters(bench, 0, 0, 0, 0));
    }
}
