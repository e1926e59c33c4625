/** Terms 4: failing, differing and witnesses. */
final class FailEdges {
    private FailEdges() {
    }

    static void run() {
        Edge.in("Term 4");
        Edge.says("FAILING. Of a word so far, from place i on (i may be its length, then there is no letter from there on)",
                FailEdges::behindTheWord);
        Edge.says("a condition fails if there is a letter at i of which it doesn't hold.", FailEdges::condition);
        Edge.says("{ s }: if there is a letter at i, no row from i on (none too) up to somewhere is of s, and the row "
                + "from i to the end doesn't go on to s.", FailEdges::sequence);
        Edge.says("{ r } |-> p: if p fails from the last place of a row of r that begins at i (rows with a letter).",
                FailEdges::overlaps);
        Edge.says("{ r } |=> p: if p fails from the place behind a row of r that begins at i (of no letters: from i).",
                FailEdges::follows);
        Edge.says("c -> p: if c holds of the letter at i, and p fails from i.", FailEdges::implies);
        Edge.says("always p: if p fails from some place i or behind.", FailEdges::always);
        Edge.says("never { r }: if a row of r, with a letter, begins at i or behind.", FailEdges::never);
        Edge.says("next p, next [n] p: if p fails from i + 1, i + n.", FailEdges::next);
        Edge.says("( p until c ): if p fails from some place j, i or behind, and c holds of no letter i .. j.",
                FailEdges::until);
        Edge.says("( c before d ): if d holds of a letter j, i or behind, and none of i .. j - 1 has c and not d.",
                FailEdges::before);
        Edge.says("( p and q ): if one fails.", FailEdges::and);
        Edge.says("(What fails stays so whatever comes.)", FailEdges::staysSo);
        Edge.says("The word FAILS a property if that fails from place 0 on.", FailEdges::fromPlaceZero);
        Edge.says("The properties DIFFER, with n signals (1 .. 3) and up to k letters, if there is a word of 1 to k "
                + "letters below 2 to the n that fails just one of them", FailEdges::differ);
        Edge.says("the WITNESS is the shortest such word, of several the one with the least first letter, and so on.",
                FailEdges::witness);
    }

    private static void behindTheWord() {
        // What begins behind the last letter can't fail before a letter is there.
        Due.letters("01", "next 0", "a a");
        Due.letters("01", "next {0}", "a a");
        Due.letters("01", "{a}|=>0", "a a");
        Due.letters("01", "{a}|=>never {1}", "a a");
        Due.letters("0000000001", "next[9] 0", "- - - - - - - - - -");
        Due.letters("0".repeat(23) + "1", "next[9] next[9] next[5] 0", new int[24]);
        Due.letters("0".repeat(24), "next[9] next[9] next[6] 0", new int[24]);
        Due.letters("0".repeat(24), "next[9] next[9] next[9] 0", new int[24]);
        AssertionBench bench = Text.bench("0", "always 0");
        Check.same("no word has failed", 0, bench.word(1) + bench.word(2));
        Check.same("a letter fails both", 3, bench.letter(0));
    }

    private static void condition() {
        Due.letters("0", "a", "a");
        Due.letters("1", "a", "b");
        Due.letters("00", "a", "a -");
        Due.letters("11", "a", "- a");
        Due.letters("000", "next[2] a", "- - a");
        Due.letters("001", "next[2] a", "a a -");
    }

    private static void sequence() {
        Due.letters("1", "{a}", "-");
        Due.letters("000", "{a}", "a - -");
        Due.letters("01", "{a;b}", "a a");
        Due.letters("0000", "{a;b}", "a b - -");
        // The row of none is one: then it never fails.
        Due.letters("000", "{a[*]}", "- b a");
        Due.letters("00", "{a[*0]}", "a a");
        Due.letters("00", "{a[=0]}", "a a");
        Due.letters("1", "{a[+]}", "-");
        // As long as it goes on it doesn't fail, though no letter can ever make it good.
        Due.letters("01", "{a;0}", "a a");
        Due.letters("001", "{a;b;0}", "a b c");
        Due.letters("0".repeat(24), "{0[->1]}", new int[24]);
        Due.letters("1", "{0}", "a");
        Due.letters("1", "{a&&{b;c}}", "ab");
        Due.letters("1", "{a[*0]:b}", "b");
        // A row that ended, however short, makes it good, whatever comes.
        Due.letters("0000", "{a||{a;b;c}}", "a - - -");
        Due.letters("0".repeat(24), "{a[->1]}", new int[24]);
        Due.letters("0".repeat(23) + "1", "{!a[*8];!a[*8];!a[*7];a}", new int[24]);
        // Two of a great weight, one behind the other.
        Due.letters("000", "{{a[*6]}[*6]||a;b}|->{{b[*6]}[*6]||b;c}", "a b c");
        Due.letters("001", "{{a[*6]}[*6]||a;b}|->{{b[*6]}[*6]||b;c}", "a b -");
    }

    private static void overlaps() {
        Due.letters("1", "{a}|->b", "a");
        Due.letters("0", "{a}|->b", "ab");
        Due.letters("000", "{a}|->b", "- a a");
        Due.letters("01", "{a;b}|->c", "a b");
        // The row of none has no last place.
        Due.letters("0", "{a[*]}|->b", "-");
        Due.letters("1", "{a[*]}|->b", "a");
        Due.letters("000", "{a[*0]}|->0", "a a a");
        // Each of several rows counts.
        Due.letters("001", "{a[+]}|->b", "ab ab a");
        Due.letters("0001", "{a[*2..3]}|->{b;c}", "a ab abc -");
    }

    private static void follows() {
        Due.letters("00", "{a}|=>b", "a b");
        Due.letters("01", "{a}|=>b", "a -");
        Due.letters("0", "{a}|=>b", "-");
        // Behind the row of none is where it begins.
        Due.letters("1", "{a[*]}|=>b", "-");
        Due.letters("1", "{a[*0]}|=>b", "a");
        Due.letters("00", "{a[*0]}|=>b", "b -");
        Due.letters("01", "{a[*]}|=>b", "ab a");
        Due.letters("01", "next {a[*0]}|=>b", "- -");
        Due.letters("0001", "{a[*2..3]}|=>b", "a a ab -");
    }

    private static void implies() {
        Due.letters("1", "a->b", "a");
        Due.letters("0", "a->b", "ab");
        Due.letters("00", "a->b", "- a");
        Due.letters("000", "0->0", "a - b");
        Due.letters("1", "1->0", "-");
        Due.letters("01", "a->next b", "a -");
        Due.letters("00", "a->next b", "- -");
    }

    private static void always() {
        Due.letters("1", "always a", "-");
        Due.letters("0".repeat(23) + "1", "always !a", "- ".repeat(23) + "a");
        Due.letters("0011", "always a", "a a - a");
        Due.letters("0011", "next always a", "- a - a");
        Due.letters("0000", "next always a", "- a a a");
        Due.letters("001", "always {a;b}", "a ab -");
        Due.letters("01", "always next a", "- -");
        // From several places at once.
        Due.letters("00001", "always {1;1;a}", "- - a a -");
        Due.letters("000001", "always {1;1;1;a}", "- - - a a -");
        Due.letters("00000", "always {1;1;a}", "- - a a a");
        Due.letters("000000", "always {b;1;1;a}", "b b b ab ab ab");
    }

    private static void never() {
        Due.letters("1", "never {a}", "a");
        Due.letters("0".repeat(23) + "1", "never {a}", "- ".repeat(23) + "a");
        Due.letters("0".repeat(23) + "1", "never {b;a}", "- ".repeat(22) + "b a");
        // A row of none doesn't count.
        Due.letters("000", "never {a[*0]}", "a b -");
        Due.letters("001", "never {a[*]}", "- - a");
        Due.letters("001", "next never {a}", "a - a");
        Due.letters("000", "next never {a;b}", "a b -");
        Due.letters("0001", "next never {a;b}", "a b a b");
        Due.letters("000", "never {0}", "a - b");
    }

    private static void next() {
        Due.letters("00", "next a", "- a");
        Due.letters("01", "next a", "a -");
        for (int n = 0; n <= 9; n++) {
            Due.letters("0".repeat(n) + "1", "next[" + n + "] a", new int[n + 1]);
            int[] word = new int[n + 2];
            word[n] = 1;
            Due.letters("0".repeat(n + 2), "next[" + n + "] a", word);
        }
        Due.letters("1", "next[0] next[0] a", "-");
        Due.letters("0001", "next[0] next[1] next[2] a", "- - - -");
    }

    private static void until() {
        Due.letters("1", "(a until b)", "-");
        Due.letters("0", "(a until b)", "b");
        Due.letters("000", "(a until b)", "a b -");
        Due.letters("001", "(a until b)", "a a -");
        Due.letters("000", "(a until b)", "a a b");
        Due.letters("0".repeat(23) + "1", "(a until b)", "a ".repeat(23) + "-");
        // What began ahead of c may still fail behind it; what would begin with c doesn't begin.
        Due.letters("01", "({a;b} until c)", "a c");
        Due.letters("000", "({a;b} until c)", "c - -");
        Due.letters("000", "({a;b} until c)", "a bc -");
        Due.letters("00", "(0 until 1)", "- -");
        Due.letters("1", "(0 until 0)", "-");
        Due.letters("01", "next (a until b)", "b -");
    }

    private static void before() {
        Due.letters("1", "(a before b)", "b");
        Due.letters("00", "(a before b)", "a b");
        Due.letters("000", "(a before b)", "- a b");
        Due.letters("001", "(a before b)", "- - b");
        Due.letters("0".repeat(24), "(a before b)", new int[24]);
        Due.letters("0".repeat(23) + "1", "(a before b)", "- ".repeat(23) + "b");
        // A letter with both is none that comes ahead.
        Due.letters("1", "(a before b)", "ab");
        Due.letters("01", "(a before b)", "- ab");
        Due.letters("00", "(a before b)", "a ab");
        Due.letters("1", "(1 before 1)", "-");
        Due.letters("01", "next (a before b)", "a b");
    }

    private static void and() {
        Due.letters("1", "(a and b)", "b");
        Due.letters("1", "(a and b)", "a");
        Due.letters("1", "(a and b)", "-");
        Due.letters("0", "(a and b)", "ab");
        Due.letters("01", "(a and next b)", "a -");
        Due.letters("01", "(next b and a)", "a -");
        Due.letters("11", "(next b and a)", "- b");
        // Each for itself, however many there are.
        Due.letters("0000", "({a;a;a} and (1 until b))", "a a a -");
        Due.letters("001", "({a;a;a} and (1 until b))", "a a -");
        Due.letters("0000", "((1 until b) and ({a;a;a} and (c before d)))", "a a a -");
        Due.letters("0001", "((1 until b) and ({a;a;a} and (c before d)))", "a a a d");
    }

    private static void staysSo() {
        for (String property : new String[] {"a", "{a}", "{!a}|->a", "{!a}|=>a", "!a->a", "always a", "never {!a}", "next a",
            "(a until b)", "(c before !a)", "(a and b)"}) {
            AssertionBench bench = Text.bench("1", property);
            int failed = 0;
            for (int v : new int[] {0, 0, 1, 2, 3, 4, 63, 62, 61, 0, 1, 3, 7, 15, 31, 63, 0, 0, 1, 1, 2, 2, 3, 63}) {
                int answer = bench.letter(v);
                Check.holds(property + " stays so", failed == 0 || answer == failed);
                failed = answer;
            }
            Check.same(property + " has failed", 2, failed);
            Check.holds(property + " first with one of the two first letters", bench.word(2) <= 2);
        }
    }

    private static void fromPlaceZero() {
        Due.letters("0000", "a", "a - - -");
        Due.letters("0000", "{a;b}", "a b b a");
        Due.letters("0000", "(a before b)", "a - b b");
        Due.letters("1111", "a", "- a a a");
        AssertionBench bench = Text.bench("a");
        bench.letter(0);
        bench.clear();
        Check.same("place 0 is that of the new word", 0, bench.letter(1));
    }

    private static int differ(String zero, String one, int n, int k) {
        return Text.bench(zero, one).differ(n, k);
    }

    private static void differ() {
        Check.same("just one", 1, differ("a", "1", 1, 1));
        Check.same("just the other", 1, differ("1", "a", 1, 1));
        Check.same("none", 0, differ("1", "1", 3, 4));
        Check.same("both at once", 0, differ("0", "0", 1, 12));
        Check.same("both, but one first", 1, differ("0", "next 0", 1, 2));
        // Letters below 2 to the n alone.
        Check.same("b with one signal", 0, differ("!b", "1", 1, 9));
        Check.same("b with two", 1, differ("!b", "1", 2, 1));
        Check.same("c with two", 0, differ("!c", "1", 2, 4));
        Check.same("c with three", 1, differ("!c", "1", 3, 1));
        Check.same("d with three", 0, differ("!d", "1", 3, 3));
        AssertionBench bench = Text.bench("!c", "1");
        Check.same("with three first", 1, bench.differ(3, 2));
        Check.same("then with two", 0, bench.differ(2, 4));
        Check.same("and with one", 0, bench.differ(1, 9));
        // Up to k letters.
        for (int k = 1; k <= 12; k++) {
            Check.same("with the sixth, of " + k, k < 6 ? 0 : 6, differ("next[5] a", "1", 1, k));
        }
        Check.same("with the twelfth", 12, differ("next[9] next[2] a", "1", 1, 12));
        Check.same("not with eleven", 0, differ("next[9] next[2] a", "1", 1, 11));
        for (int n : new int[] {-1, 0, 4}) {
            Check.fails("signals " + n, IllegalArgumentException.class, () -> differ("a", "b", n, 1));
        }
    }

    private static void witness(String zero, String one, int n, int k, int... due) {
        AssertionBench bench = Text.bench(zero, one);
        Check.same(zero + " , " + one, due.length, bench.differ(n, k));
        for (int t = 0; t < due.length; t++) {
            Check.same(zero + " , " + one + " letter " + t, due[t], bench.witness(t));
        }
        Check.fails("no more", IndexOutOfBoundsException.class, () -> bench.witness(due.length));
    }

    private static void witness() {
        witness("a", "1", 3, 3, 0);
        witness("!a", "1", 3, 3, 1);
        witness("!b|!a", "1", 3, 3, 3);
        witness("!c", "1", 3, 3, 4);
        witness("never {b;a}", "1", 2, 4, 2, 1);
        // A longer word with less letters is not looked for.
        witness("(!b and next[2] 0)", "1", 2, 3, 2);
        witness("(!a|!b and {!a}|=>next 0)", "1", 2, 4, 3);
        witness("{b}|=>b", "{b}|=>a", 2, 2, 2, 1);
        witness("always a->next b", "always a->next b|c", 3, 3, 1, 4);
        witness("next[5] !a", "1", 1, 12, 0, 0, 0, 0, 0, 1);
    }
}
