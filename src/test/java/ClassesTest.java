import java.util.Arrays;

/** Promises 10 to 13: classes, classOf, classBehind and kind. */
public final class ClassesTest {
    public static void main(String[] args) {
        told();
        numbered();
        wrong();
        for (int seed = 0; seed < 1500; seed++) {
            alike(new Maker(seed, 1 + seed % 3));
        }
        for (int seed = 0; seed < 600; seed++) {
            againstModel(new Maker(50000 + seed, 1 + seed % 6).sequenceUpTo(6));
        }
        Check.done("ClassesTest");
    }

    private static void told() {
        Due.kinds("203", "a");
        Due.kinds("203", "a|b");
        Due.kinds("30", "a[*]");
        Due.kinds("3", "1[*]");
        Due.kinds("0", "a&&{b;c}");
        Due.kinds("20", "0");
        Due.kinds("2023", "a;b");
        Due.kinds("30", "a[*0]");
        Due.kinds("23", "a[->1] ; 1[*]");
        Due.kinds("22230", "{a[->3]}");
        Due.kinds("3033", "{a[*0..2]}");
    }

    private static void numbered() {
        AssertionBench bench = Text.bench("{{!a;a} || {a;!a;a}}");
        Check.same("the class of no letters is 0", 0, bench.classOf(0, 0, 0));
        Check.same("the first letter's is 1", 1, bench.classBehind(0, 0, 0));
        Check.same("letters with other signals are alike", 1, bench.classBehind(0, 0, 62));
        Check.same("the next one's is 2", 2, bench.classBehind(0, 0, 1));
        Check.same("letter 63 is like 1", 2, bench.classBehind(0, 0, 63));
        Text.letters(bench, 0, 0, 1, 0, 1);
        Check.same("!a", 1, bench.classOf(0, 0, 1));
        Check.same("!a !a is dead", 3, bench.classOf(0, 0, 2));
        Check.same("dead", 0, bench.kind(0, 3));
        Check.same("!a a is a row", 3, bench.kind(0, bench.classOf(0, 1, 3)));
        Check.same("a !a is like !a", 1, bench.classOf(0, 2, 4));
        Check.same("a !a a is a row", 3, bench.kind(0, bench.classOf(0, 2, 5)));
        Check.same("five classes", 5, bench.classes(0));
    }

    private static void wrong() {
        AssertionBench bench = Text.bench("{a;b;c;a;b;c}", "{a;b;c;a;b;c;a}");
        Text.letters(bench, 1, 2);
        Check.same("weight 6", 8, bench.classes(0));
        Check.fails("weight 7", UnsupportedOperationException.class, () -> bench.classes(1));
        Check.fails("weight 7", UnsupportedOperationException.class, () -> bench.classOf(1, 0, 1));
        Check.fails("weight 7 and a wrong row", IllegalArgumentException.class, () -> bench.classOf(1, 0, 3));
        Check.fails("weight 7 and a wrong class", UnsupportedOperationException.class, () -> bench.classBehind(1, -1, 0));
        Check.fails("weight 7 and a wrong class", UnsupportedOperationException.class, () -> bench.kind(1, 99));
        for (int p : new int[] {-1, 2}) {
            Check.fails("classes", IndexOutOfBoundsException.class, () -> bench.classes(p));
            Check.fails("classOf", IndexOutOfBoundsException.class, () -> bench.classOf(p, 5, 1));
            Check.fails("classBehind", IndexOutOfBoundsException.class, () -> bench.classBehind(p, -1, -1));
            Check.fails("kind", IndexOutOfBoundsException.class, () -> bench.kind(p, -1));
        }
        for (int c : new int[] {-1, 8, Integer.MAX_VALUE, Integer.MIN_VALUE}) {
            Check.fails("class " + c, IllegalArgumentException.class, () -> bench.classBehind(0, c, 0));
            Check.fails("class " + c, IllegalArgumentException.class, () -> bench.kind(0, c));
            Check.fails("letter", IllegalArgumentException.class, () -> bench.classBehind(0, 0, c == 8 ? 64 : c));
        }
        Check.fails("i above j", IllegalArgumentException.class, () -> bench.classOf(0, 2, 1));
        Check.fails("j above the length", IllegalArgumentException.class, () -> bench.classOf(0, 0, 3));
        Text.read(bench, 1, "always a");
        Check.fails("no sequence", IllegalStateException.class, () -> bench.classes(1));
        Check.fails("no sequence", IllegalStateException.class, () -> bench.classOf(1, 0, 0));
        Check.fails("no sequence and a wrong row", IllegalArgumentException.class, () -> bench.classOf(1, 1, 0));
        Check.fails("no sequence", IllegalStateException.class, () -> bench.classBehind(1, -1, -1));
        Check.fails("no sequence", IllegalStateException.class, () -> bench.kind(1, -1));
        Text.read(bench, 1, "{a}|->{b;b;b;b;b;b;b;b}");
        Check.same("only the first one's weight counts", 3, bench.classes(1));
        Text.read(bench, 1, "{b;a}|->{b}");
        Check.same("classes of the property that was read last", 4, bench.classes(1));
    }

    /** Each class, its kind and what each letter leads to. */
    private static void againstModel(Model.Seq s) {
        AssertionBench bench = Text.bench("{" + s.text() + "}");
        ClassModel due = new ClassModel(s);
        Check.same(s.text() + " classes", due.count(), bench.classes(0));
        for (int c = 0; c < Math.min(due.count(), bench.classes(0)); c++) {
            Check.same(s.text() + " kind of " + c, due.kind(c), bench.kind(0, c));
            for (int v = 0; v < 64; v++) {
                Check.same(s.text() + " behind " + c + " with " + v, due.behind(c, v), bench.classBehind(0, c, v));
            }
        }
    }

    /**
     * Kinds are those of the definitions on many rows; no two classes answer the same to all letters; and
     * going over classes from 0 on with rising letters meets them in their order.
     */
    private static void alike(Maker maker) {
        Model.Seq s = maker.sequenceUpTo(6);
        AssertionBench bench = Text.bench("{" + s.text() + "}");
        int count = bench.classes(0);
        for (int n = 0; n < 6; n++) {
            int[] word = maker.word(1 + maker.below(6));
            bench.clear();
            Text.letters(bench, word);
            int c = 0;
            for (int j = 0; j <= word.length; j++) {
                String what = s.text() + " : " + Arrays.toString(Arrays.copyOf(word, j));
                Check.same(what + " class", c, bench.classOf(0, 0, j));
                int kind = Model.row(s, word, 0, j) ? 3 : Model.goesOn(s, word, 0, j) ? 2 : 0;
                Check.same(what + " kind", kind, bench.kind(0, c));
                c = j < word.length ? bench.classBehind(0, c, word[j]) : c;
            }
        }
        int met = 1;
        for (int c = 0; c < met; c++) {
            for (int v = 0; v < 64; v++) {
                int behind = bench.classBehind(0, c, v);
                Check.holds(s.text() + " order of classes", behind <= met);
                met = Math.max(met, behind + 1);
            }
        }
        Check.same(s.text() + " classes met", count, met);
        Check.same(s.text() + " classes told apart", count, toldApart(bench, count));
    }

    /** How many classes are left if those are one that no letters tell apart, by marking pairs. */
    private static int toldApart(AssertionBench bench, int count) {
        boolean[][] apart = new boolean[count][count];
        for (boolean more = true; more;) {
            more = false;
            for (int c = 0; c < count; c++) {
                for (int d = 0; d < count; d++) {
                    boolean told = bench.kind(0, c) != bench.kind(0, d);
                    for (int v = 0; v < 64 && !told; v++) {
                        told = apart[bench.classBehind(0, c, v)][bench.classBehind(0, d, v)];
                    }
                    more |= told && !apart[c][d];
                    apart[c][d] |= told;
                }
            }
        }
        int left = 0;
        for (int c = 0; c < count; c++) {
            boolean first = true;
            for (int d = 0; d < c; d++) {
                first &= apart[c][d];
            }
            left += first ? 1 : 0;
        }
        return left;
    }
}
