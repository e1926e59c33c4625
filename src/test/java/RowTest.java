/** Promises 8 and 9: row and goesOn, told by hand; ModelTest has many more. */
public final class RowTest {
    private static final int A = 1;
    private static final int B = 2;

    public static void main(String[] args) {
        rows();
        wild();
        firstOfSeveral();
        wrong();
        Check.done("RowTest");
    }

    private static void rows() {
        Due.row(false, true, "a");
        Due.row(true, true, "a", A);
        Due.row(false, false, "a", B);
        Due.row(false, false, "a", A, A);
        Due.row(true, true, "a;b", A, B);
        Due.row(false, true, "a;b", A);
        Due.row(true, true, "a:b", A | B);
        Due.row(false, false, "a:b", A);
        Due.row(true, true, "{a;b}:{b;a}", A, B, A);
        Due.row(true, true, "a[*]");
        Due.row(true, true, "a[*]", A, A, A);
        Due.row(false, true, "a[+]");
        Due.row(true, true, "a[*0]");
        Due.row(false, false, "a[*0]", A);
        Due.row(false, true, "a[*2]", A);
        Due.row(true, true, "a[*1..2]", A);
        Due.row(true, true, "a[*1..2]", A, A);
        Due.row(false, false, "a[*1..2]", A, A, A);
        Due.row(true, true, "{a[*]}[*2]");
        Due.row(true, true, "a[->2]", 0, A, 0, A);
        Due.row(false, false, "a[->2]", 0, A, 0, A, 0);
        Due.row(false, true, "a[->2]", 0, A, 0);
        Due.row(true, true, "a[=1]", 0, A, 0);
        Due.row(false, false, "a[=1]", A, 0, A);
        Due.row(true, true, "a[=0]");
        Due.row(true, true, "a[=0]", 0, B);
        Due.row(false, false, "a[=0]", 0, A);
        Due.row(true, true, "a|b[*]", A, B, A);
        Due.row(true, true, "a ; b || a && b", A, A | B);
        Due.row(true, true, "a;b:a;b", A, A | B, B);
        Due.row(false, true, "{a;b}&&{1[*2]}", A);
        Due.row(true, true, "{a;b}&&{1[*2]}", A, B);
        Due.row(true, true, "{a[*]}[+]");
        Due.row(true, true, "{a;b}[*0..2]", A, B, A, B);
    }

    private static void wild() {
        Due.row(false, true, "0");
        Due.row(false, false, "0", A);
        Due.row(false, true, "a;0", A);
        Due.row(false, true, "a;!1;b", A);
        Due.row(false, true, "b & !b");
        Due.row(false, true, "1[=0] ; 0 ; a");
        Due.row(false, false, "a && {b;a}");
        Due.row(false, false, "a && {b;a}", A | B);
        Due.row(false, true, "a && {b;a} || b");
        Due.row(false, false, "a[*0] : b");
        Due.row(false, true, "0[->3]", A, B);
        Due.row(false, true, "1[->2]", 0);
    }

    private static void firstOfSeveral() {
        AssertionBench bench = Text.bench("always (a -> {b}|->{a} and never {a;a})");
        Text.letters(bench, 0, B, A, A);
        Check.holds("the first sequence by its place is b", bench.row(0, 1, 2));
        Check.holds("not a", !bench.row(0, 2, 3));
        Check.holds("not a;a", !bench.row(0, 2, 4));
        Check.holds("none of no letters", !bench.row(0, 4, 4));
        Check.holds("but that goes on", bench.goesOn(0, 4, 4));
        Check.holds("a doesn't", !bench.goesOn(0, 3, 4));
    }

    private static void wrong() {
        AssertionBench bench = Text.bench("{a}", "a");
        Text.letters(bench, A, B);
        int[][] ends = {{-1, 0}, {0, 3}, {2, 1}, {3, 3}, {0, -1}, {Integer.MIN_VALUE, 0}, {0, Integer.MAX_VALUE}};
        for (int[] e : ends) {
            for (int p = 0; p < 2; p++) {
                int which = p;
                Check.fails("row", IllegalArgumentException.class, () -> bench.row(which, e[0], e[1]));
                Check.fails("goesOn", IllegalArgumentException.class, () -> bench.goesOn(which, e[0], e[1]));
            }
        }
        for (int p : new int[] {-1, 2, Integer.MAX_VALUE}) {
            Check.fails("row of " + p, IndexOutOfBoundsException.class, () -> bench.row(p, -1, 9));
            Check.fails("goesOn of " + p, IndexOutOfBoundsException.class, () -> bench.goesOn(p, -1, 9));
        }
        Check.fails("no sequence", IllegalStateException.class, () -> bench.row(1, 0, 0));
        Check.fails("no sequence", IllegalStateException.class, () -> bench.goesOn(1, 0, 2));
        Check.same("nothing has changed", 2, bench.word(0));
        Check.holds("the whole word may be left out", !bench.row(0, 2, 2) && bench.row(0, 0, 1));
    }
}
