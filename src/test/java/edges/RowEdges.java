/** Terms 3: rows of a sequence, and rows that go on. */
final class RowEdges {
    private RowEdges() {
    }

    static void run() {
        Edge.in("Term 3");
        Edge.says("ROWS. A row of letters, perhaps of none, is one OF a sequence", RowEdges::perhapsOfNone);
        Edge.says("of a condition, one letter of which it holds;", RowEdges::condition);
        Edge.says("r ; s a row of r and behind it one of s;", RowEdges::chain);
        Edge.says("r : s a row with a letter which is the last one of a row of r that it begins with, and the first one "
                + "of a row of s that it ends with;", RowEdges::overlap);
        Edge.says("r || s of one;", RowEdges::either);
        Edge.says("r && s of both;", RowEdges::both);
        Edge.says("r[*] some rows of r one behind the other, or none;", RowEdges::star);
        Edge.says("r[+] one at least;", RowEdges::plus);
        Edge.says("r[*n] n of them;", RowEdges::times);
        Edge.says("r[*n..m] n up to m;", RowEdges::range);
        Edge.says("c[->n] n times: letters without c, some or none, and one with it;", RowEdges::arrows);
        Edge.says("c[=n] that, and behind it letters without c, some or none.", RowEdges::exactly);
        Edge.says("A row GOES ON to a sequence if it is one of its rows, or is so with some WILD letters behind it",
                RowEdges::goesOn);
        Edge.says("of these each condition holds, and each doesn't (also 0 and 1).", RowEdges::wild);
    }

    /** Some letters, all with a. */
    private static String as(int n) {
        return n == 0 ? "" : "a" + " a".repeat(n - 1);
    }

    private static void perhapsOfNone() {
        for (String sequence : new String[] {"a[*]", "a[*0]", "a[*0..2]", "a[=0]", "{a[*]}[+]", "{a[*]}[*3]", "a[*];b[*]",
            "a[*]&&b[*]", "a||b[*]", "0[*]"}) {
            Due.rows(sequence, "");
        }
        for (String sequence : new String[] {"a", "1", "a[+]", "a[*1]", "a[*1..2]", "a[->1]", "a[=1]", "a[*];b", "a;b[*]",
            "a[*]:b[*]", "a[*]&&b", "a||b", "0"}) {
            Due.beginnings(sequence, "");
        }
        AssertionBench bench = Text.bench("{a[*]}");
        bench.letter(2);
        Check.holds("of none ahead of the first letter", bench.row(0, 0, 0));
        Check.holds("and behind the last", bench.row(0, 1, 1));
        Check.holds("but not of that letter", !bench.row(0, 0, 1));
    }

    private static void condition() {
        Due.beginnings("a", "");
        Due.rows("a", "a", "ab");
        Due.dead("a", "b", "-", "a a", "a b", "b a");
        Due.rows("1", "-", "abcdef");
        Due.dead("0", "-", "abcdef");
    }

    private static void chain() {
        Due.rows("a;b", "a b", "ab ab");
        Due.beginnings("a;b", "", "a");
        Due.dead("a;b", "b", "ab a", "a b b");
        // One of the two may be of none.
        Due.rows("a[*];b", "b", "a b", "a a b");
        Due.rows("a;b[*]", "a", "a b", "a b b");
        Due.rows("a[*];b[*]", "", "a", "b", "a b", "a a b b");
        Due.dead("a[*];b[*]", "b a");
        Due.rows("a[*0];b[*0]", "");
        Due.dead("a[*0];b[*0]", "a", "b");
        Due.rows("a[*0];b", "b");
        Due.rows("b;a[*0]", "b");
        Due.rows("a[*];b[*];c[*]", "", "a c", "c", "b", "a b c");
    }

    private static void overlap() {
        Due.rows("a:b", "ab");
        Due.dead("a:b", "a", "b", "ab ab", "a b");
        Due.rows("{a;b}:{c;d}", "a bc d");
        Due.dead("{a;b}:{c;d}", "a b c", "a c", "a bd", "a ab");
        Due.rows("a:b:c", "abc");
        // Neither row may be of none, as there is no letter that both have then.
        Due.beginnings("a[*]:b[*]", "");
        Due.rows("a[*]:b[*]", "ab", "a ab", "ab b", "a ab b");
        Due.dead("a[*]:b[*]", "b", "a b b");
        Due.beginnings("a[*]:b[*]", "a", "a a");
        Due.dead("a[*0]:b", "", "b", "ab");
        Due.dead("a:b[*0]", "", "a", "ab");
        Due.dead("a[*0]:b[*0]", "", "a");
        Due.rows("a[*0..1]:b[*0..1]", "ab");
        Due.beginnings("a[*0..1]:b[*0..1]", "");
        Due.rows("{a:b}[*]", "", "ab", "ab ab");
        // The letter must be the last of one and the first of the other, and not anyone of them.
        Due.rows("{a;b}:c", "a bc");
        Due.beginnings("{a;b}:c", "ac");
        Due.dead("{a;b}:c", "bc", "c");
        Due.rows("a:!b", "a");
        Due.dead("a:!b", "-", "ab");
        Due.rows("{a;b}:!c", "a b");
        Due.dead("{a;b}:!c", "a -", "a bc");
        Due.rows("{a:b[+]}[*]", "", "ab b", "ab b ab b");
        Due.dead("{a:b[+]}[*]", "b", "ab a");
        Due.rows("c:a[=0]", "c", "c b");
        Due.dead("c:a[=0]", "ac", "b");
        Due.rows("c:a[=0];b", "c b", "c - b");
        Due.dead("c:a[=0];b", "b", "ac b");
    }

    private static void either() {
        Due.rows("a||b", "a", "b", "ab");
        Due.dead("a||b", "c", "-", "a b");
        Due.beginnings("a||b", "");
        Due.rows("a[*0]||b", "", "b");
        Due.rows("a||b[*]", "", "a", "b b");
        Due.dead("a||b[*]", "a b", "a a");
        Due.rows("{a;b}||a", "a", "a b");
        Due.rows("a||a", "a");
        Due.rows("a||{a&&{b;c}}", "a");
    }

    private static void both() {
        Due.rows("a&&b", "ab");
        Due.dead("a&&b", "a", "b", "ab ab");
        Due.beginnings("a&&b", "");
        Due.rows("a[*]&&b[*]", "", "ab", "ab ab");
        Due.dead("a[*]&&b[*]", "a", "b", "ab a", "ab b", "ab ab a");
        Due.dead("a[*2]&&b[*2]", "ab a", "ab b");
        // As great as may be: five times eight.
        Due.rows("a[*4]&&b[*0..7]", "ab ab ab ab");
        Due.beginnings("a[*4]&&b[*0..7]", "", "ab ab ab");
        Due.dead("a[*4]&&b[*0..7]", "ab ab ab ab ab", "ab ab ab a");
        Due.rows("a[*0]&&b[*]", "");
        Due.dead("a[*0]&&b[*]", "ab");
        // Of different lengths there is none that is of both.
        Due.dead("a&&{b;c}", "", "ab", "ab c");
        Due.dead("a[*0]&&b", "", "a", "b", "ab");
        Due.dead("a&&b[*0]", "", "a", "b", "ab");
        Due.dead("a&&a[*0]", "", "a", "a a");
        Due.rows("a[*]&&b[*0];c", "c");
        Due.rows("a[*2]&&b[*0..2]", "ab ab");
        Due.beginnings("a[*2]&&b[*0..2]", "", "ab");
        Due.rows("a[*1..2]&&b[*2..3]", "ab ab");
        Due.dead("a[*1..2]&&b[*2..3]", "ab ab ab");
    }

    private static void star() {
        for (int n = 0; n <= 24; n++) {
            Due.rows("a[*]", as(n));
            Due.row(n % 2 == 0, true, "{a;a}[*]", Text.word(as(n)));
        }
        Due.dead("a[*]", "b", "a b", "b a");
        Due.rows("{a;b}[*]", "", "a b", "a b a b");
        Due.beginnings("{a;b}[*]", "a", "a b a");
        Due.rows("{a[*]}[*]", "", "a", "a a");
        Due.rows("{a[*0]}[*]", "");
        Due.dead("{a[*0]}[*]", "a");
    }

    private static void plus() {
        Due.beginnings("a[+]", "");
        for (int n = 1; n <= 24; n++) {
            Due.rows("a[+]", as(n));
        }
        Due.dead("a[+]", "b", "a b");
        Due.beginnings("{a;b}[+]", "", "a");
        Due.rows("{a;b}[+]", "a b", "a b a b");
        // One of none is one.
        Due.rows("{a[*]}[+]", "", "a");
        Due.rows("{a[*0]}[+]", "");
    }

    private static void times() {
        for (int n = 0; n <= 9; n++) {
            for (int letters = 0; letters <= 11; letters++) {
                Due.row(letters == n, letters <= n, "a[*" + n + "]", Text.word(as(letters)));
            }
        }
        Due.rows("{a;b}[*2]", "a b a b");
        Due.beginnings("{a;b}[*2]", "", "a b", "a b a");
        Due.dead("{a;b}[*2]", "a b a b a", "a b b", "a b b a b", "b a b");
        Due.rows("c;{a;b}[*3];c", "c a b a b a b c");
        Due.dead("c;{a;b}[*3];c", "c a b b", "c a b a b b", "c b", "c a b a b c");
        Due.rows("{a;b}[*0]", "");
        Due.dead("{a;b}[*0]", "a", "a b");
        Due.beginnings("{{a[*8]}[*5]}[*1]", as(24));
        Due.beginnings("{{a[*8]}[*5]}[*0..1]", as(24));
        Due.dead("{{a[*8]}[*5]}[*0]", "a");
        // Rows of none are rows.
        Due.rows("{a[*]}[*3]", "", "a", "a a a a");
        Due.rows("{a[*0..1]}[*2]", "", "a", "a a");
        Due.dead("{a[*0..1]}[*2]", "a a a");
    }

    private static void range() {
        for (int n = 0; n <= 9; n += 3) {
            for (int m = n; m <= 9; m++) {
                for (int letters = 0; letters <= 10; letters++) {
                    boolean of = letters >= n && letters <= m;
                    Due.row(of, letters <= m, "a[*" + n + ".." + m + "]", Text.word(as(letters)));
                }
            }
        }
        Due.rows("{a;b}[*0..2]", "", "a b", "a b a b");
        Due.beginnings("{a;b}[*1..2]", "", "a", "a b a");
        Due.dead("{a;b}[*1..2]", "a b a b a");
        Due.rows("{a;b}[*0..0]", "");
        Due.dead("{a;b}[*0..0]", "a");
    }

    private static void arrows() {
        Due.rows("a[->1]", "a", "- a", "b - b a");
        Due.beginnings("a[->1]", "", "-", "b b b");
        Due.dead("a[->1]", "a a", "a -", "- a b");
        Due.rows("a[->2]", "a a", "a - a", "- a a", "- a - - a");
        Due.beginnings("a[->2]", "", "a", "- a -");
        Due.dead("a[->2]", "a a a", "a a -");
        for (int n = 1; n <= 9; n++) {
            for (int letters = 0; letters <= 10; letters++) {
                Due.row(letters == n, letters <= n, "a[->" + n + "]", Text.word(as(letters)));
            }
            Due.row(false, true, "a[->" + n + "]", Text.word(as(n - 1) + (n > 1 ? " -" : "-")));
            Due.row(true, true, "a[->" + n + "]", Text.word(as(n - 1) + (n > 1 ? " - a" : "- a")));
        }
        Due.rows("1[->2]", "- -");
        Due.dead("1[->2]", "- - -");
        Due.beginnings("0[->1]", "", "a", "a b -");
    }

    private static void exactly() {
        Due.rows("a[=0]", "", "-", "b b b");
        Due.dead("a[=0]", "a", "- a");
        Due.rows("a[=1]", "a", "a -", "- a", "- a - -");
        Due.beginnings("a[=1]", "", "-", "- b");
        Due.dead("a[=1]", "a a", "a - a");
        for (int n = 0; n <= 9; n++) {
            for (int letters = 0; letters <= 10; letters++) {
                Due.row(letters == n, letters <= n, "a[=" + n + "]", Text.word(as(letters)));
            }
            Due.rows("a[=" + n + "]", as(n) + (n > 0 ? " -" : "-"), as(n) + (n > 0 ? " - b -" : "- b -"));
        }
        Due.rows("0[=0]", "", "a", "- b");
        Due.dead("1[=0]", "-", "a");
        Due.rows("1[=1]", "-");
    }

    private static void goesOn() {
        // Rows go on, though no letter can come behind them.
        Due.rows("a", "a");
        Due.rows("a[*0]", "");
        Due.rows("a;b", "a b");
        // One wild letter, and as many as a sequence can want.
        Due.beginnings("a;b", "a");
        Due.beginnings("{a[*8]}[*5]", "", "a", as(24));
        Due.beginnings("{{a[*7]}[*5]}:a", "", as(24));
        Due.dead("a;b", "-", "a -", "a b a");
        Due.dead("a;b;c", "b", "a c");
        Due.dead("a&&{b;c}", "");
        Due.dead("a[*0]:b", "");
        Due.beginnings("a&&{b;c}||d;a", "");
        Due.dead("a&&{b;c}||d;a", "a");
        AssertionBench bench = Text.bench("{a;b}");
        Text.letters(bench, "b a b");
        Check.holds("from the middle on", bench.goesOn(0, 1, 2) && bench.goesOn(0, 1, 3) && bench.goesOn(0, 3, 3));
        Check.holds("not so", !bench.goesOn(0, 0, 1) && !bench.goesOn(0, 2, 3));
    }

    private static void wild() {
        Due.beginnings("0", "");
        Due.beginnings("!1", "");
        Due.beginnings("a&!a", "");
        Due.beginnings("a&&!a", "");
        Due.beginnings("a:!a", "");
        Due.beginnings("a;0", "", "a");
        Due.beginnings("a;!1;b", "a");
        Due.beginnings("0[*3]", "");
        Due.beginnings("0[->3]", "", "a", "a b -");
        Due.beginnings("0[=1]", "", "a b");
        Due.beginnings("1[->2]", "", "a");
        Due.beginnings("1[=0];a", "");
        Due.beginnings("1[=1];0", "-");
        Due.beginnings("{a;0;b}&&{1[*3]}", "", "a");
        // A letter that has come is not wild any more.
        Due.dead("0", "a", "-");
        Due.dead("!1;a", "a");
        Due.dead("a&!a", "a", "b");
        Due.dead("a&&!a", "a", "b");
        Due.dead("1[=0]", "a");
        Due.dead("a;0", "a a");
    }
}
