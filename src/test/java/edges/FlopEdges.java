/** Terms 6: small properties, classes, parts and flip-flops. */
final class FlopEdges {
    private FlopEdges() {
    }

    static void run() {
        Edge.in("Term 6");
        Edge.says("A property is SMALL if it has at most four sequences (not counting those within others), each of a WEIGHT "
                + "of at most 6.", FlopEdges::small);
        Edge.says("CLASSES: two rows are ALIKE for a sequence if both are of it or none is, both go on to it or none does, "
                + "and so on with any letters, the same ones, behind both.", FlopEdges::alike);
        Edge.says("All rows that are alike are a class; classes are numbered from 0 on by their first rows (of the fewest "
                + "letters; of several the one with the least first letter, and so on).", FlopEdges::numbered);
        Edge.says("PARTS of a property: it, and all properties in it (conditions ahead of -> and of before, and behind until "
                + "and before, are none).", FlopEdges::parts);
        Edge.says("It BEGINS at place 0.", FlopEdges::beginsAtZero);
        Edge.says("p of { r } |-> p begins at the last place of each row of r, with a letter, from i on;",
                FlopEdges::beginsWithLast);
        Edge.says("p of { r } |=> p at the place behind each row of r from i on (of none, too);", FlopEdges::beginsBehind);
        Edge.says("p of c -> p at i, if c holds of the letter there;", FlopEdges::beginsIf);
        Edge.says("p of always p at i and all places behind;", FlopEdges::beginsAlways);
        Edge.says("p of next p, next [n] p at i + 1, i + n;", FlopEdges::beginsNext);
        Edge.says("p of ( p until c ) at each place j, i or behind, c holding of no letter i .. j;", FlopEdges::beginsUntil);
        Edge.says("p and q of ( p and q ) at i.", FlopEdges::beginsBoth);
        Edge.says("The FLIP-FLOPS of a small property, behind the word so far (a PLACE is one with a letter)",
                FlopEdges::placesHaveLetters);
        Edge.says("0: whether there is no letter.", FlopEdges::noLetter);
        Edge.says("Then those of each part, in the order in which parts begin in the text.", FlopEdges::inOrder);
        Edge.says("{ s }: one for each class of s that goes on and is not of s, by its number: whether the row from some "
                + "place, at which the part began, to the end is of it, and no row from there up to anywhere (of none, "
                + "too) is of s.", FlopEdges::plain);
        Edge.says("{ r } |-> p, { r } |=> p: one for each class of r that goes on (also those whose rows are of r): whether "
                + "the row from some place at which the part began to the end is of it.", FlopEdges::rows);
        Edge.says("never { r }: likewise, but from such a place, or one behind it, or the row of no letters behind the last "
                + "one.", FlopEdges::never);
        Edge.says("always p: whether it began at some place.", FlopEdges::always);
        Edge.says("next p, next [n] p: one, n, of which the first tells whether it began at the latest letter, the second at "
                + "the one ahead, and so on.", FlopEdges::next);
        Edge.says("( p until c ), ( c before d ): whether it began at some place from which on no letter has c.",
                FlopEdges::open);
        Edge.says("The last one: whether the word FAILS the property.", FlopEdges::last);
    }

    private static void small(boolean due, String property) {
        AssertionBench bench = Text.bench(property);
        boolean refused = Check.outcome(() -> bench.flops(0)).equals("UnsupportedOperationException");
        Check.same("small: " + property, due, !refused);
        Check.same("12 may be: " + property, due, !Check.outcome(() -> bench.search(0, 12)).startsWith("Illegal"));
        Check.same("12 may be: " + property, due, !Check.outcome(() -> bench.differ(3, 4)).startsWith("Illegal"));
    }

    private static void small() {
        String six = "{a;b;c;d;e;f}";
        String seven = "{a;b;c;d;e;f;a}";
        small(true, "1");
        small(true, "always ((a until b) and (c before d))");
        small(true, six);
        small(false, seven);
        small(true, six + "|->" + six + "|=>" + six + "|->" + six);
        small(false, "{a}|->{a}|->{a}|->{a}|->{a}");
        small(true, "{a}|->{a}|->{a}|->never{a}");
        small(false, "(({a}|->{a}and never{b})and({c}and{d}))");
        for (int heavy = 0; heavy < 4; heavy++) {
            StringBuilder text = new StringBuilder();
            for (int k = 0; k < 4; k++) {
                text.append(k == 0 ? "" : "|->").append(k == heavy ? seven : "{a}");
            }
            small(false, text.toString());
        }
        // Those within others are no more, but have weights.
        small(true, "{{a};{b};{{c}};{d};{e};{f}}");
        small(true, "{{a}||{b}}|->{{a}||{b}}|->{{a}||{b}}|->{{a}||{b}}");
        small(false, "{{a;b;c;d};{e;f;a}}");
        AssertionBench bench = Text.bench("a", seven);
        Check.fails("both must be for a look", IllegalArgumentException.class, () -> bench.differ(1, 10));
        Check.same("one is enough for its search", 1, bench.search(0, 12));
        Check.fails("but not for the other's", IllegalArgumentException.class, () -> bench.search(1, 10));
    }

    /** Whether two words are of one class. */
    private static void alike(boolean due, String sequence, String one, String two) {
        AssertionBench bench = Text.bench("{" + sequence + "}");
        Text.letters(bench, one);
        int first = bench.classOf(0, 0, bench.word(0));
        bench.clear();
        Text.letters(bench, two);
        Check.same(sequence + " : " + one + " , " + two, due, first == bench.classOf(0, 0, bench.word(0)));
    }

    private static void alike() {
        // Both are rows, but with a letter behind only one is.
        alike(false, "a[*1..2]", "a", "a a");
        alike(true, "a[*1..2]", "a", "ab");
        // Both are none, but only one goes on.
        alike(false, "a;b", "a", "b");
        alike(true, "a;b", "b", "a a");
        alike(true, "a;b", "b", "a b b");
        // Both go on, and no letters behind them tell them apart.
        alike(true, "a[+];0", "", "a");
        alike(false, "a;0", "", "a");
        alike(true, "{a;0}||{b;0}", "a", "b");
        alike(true, "{!a;a}||{a;!a;a}", "-", "a -");
        alike(true, "a[*]", "", "a a a");
        alike(true, "a[->2]", "", "- - -");
        alike(false, "a[->2]", "", "a");
        // These are told apart by two letters behind them, and by no fewer.
        alike(false, "{!a;1;b}||{a;1;c}", "-", "a");
        alike(true, "{!a;1;c}||{a;1;c}", "-", "a");
        alike(false, "{!f;1;b}||{f;1;!b}", "-", "f");
        Due.kinds("3", "1[*]");
        Due.kinds("0", "a&&{b;c}");
        Due.kinds("20", "0");
        Due.kinds("20", "0;0");
        Due.kinds("202", "a;0");
        Due.kinds("30", "a[*0]");
        // Whichever signals it has.
        for (String signal : new String[] {"a", "b", "c", "d", "e", "f"}) {
            Due.kinds("203", signal);
            Due.kinds("230", "!" + signal);
            String turns = "{!x;x}||{x;!x;x}".replace("x", signal);
            Due.kinds("22203", turns);
            alike(true, turns, "-", signal + " -");
            alike(false, turns, "-", signal);
            alike(true, turns, "- -", signal + " " + signal);
            alike(false, "{!x;!x}||{x;0}".replace("x", signal), "-", signal);
            alike(false, "{!x;x}||{x;0}".replace("x", signal), "-", signal);
        }
        Due.kinds("2023", "a&!c;c");
        Due.kinds("202223", "{f;b}||{b;d}");
        alike(false, "{a;c}||{c;a}", "a", "c");
        alike(false, "{a;c}||{c;a}", "a", "ac");
        alike(true, "{a;c}||{c;a}", "a c", "c a");
        alike(true, "{b&d;f}", "bd", "abcde");
        alike(false, "{b&d;f}", "bd", "b");
    }

    private static void numbered() {
        Due.kinds("203", "a");
        Due.kinds("230", "!a");
        Due.kinds("202223", "{f;a}||{a;b}");
        AssertionBench bench = Text.bench("{{f;a}||{a;b}}");
        Check.same("no letters", 0, bench.classOf(0, 0, 0));
        Check.same("the least letter", 1, bench.classBehind(0, 0, 0));
        Check.same("the next one of which something comes", 2, bench.classBehind(0, 0, 1));
        Check.same("f", 3, bench.classBehind(0, 0, 32));
        Check.same("a and f", 4, bench.classBehind(0, 0, 33));
        Check.same("two letters", 5, bench.classBehind(0, 2, 2));
        // Fewer letters come first, though the first letter is greater.
        bench = Text.bench("{{!a;!a;a}||{a}}");
        Check.same("!a", 1, bench.classBehind(0, 0, 0));
        Check.same("a, ahead of !a !a", 2, bench.classBehind(0, 0, 1));
        Check.same("!a !a", 3, bench.classBehind(0, 1, 0));
        Check.same("!a a, which is dead", 4, bench.classBehind(0, 1, 1));
        Check.same("!a !a a is like a", 2, bench.classBehind(0, 3, 1));
    }

    private static void parts() {
        // Conditions have no flip-flops, and those that are no parts none either.
        Due.flops("a", "a", "10", "00");
        Due.flops("a->b", "-", "10", "00");
        Due.flops("(a before b)", "-", "100", "010");
        Due.flops("(a until b)", "a", "100", "010");
        Due.flops("(always a until b)", "a", "1000", "0110");
        Due.flops("(always a and next b)", "a", "1000", "0110");
        AssertionBench bench = Text.bench("always {a}|->(next b until c)");
        Check.same("all of them", 2 + 1 + 2 + 1 + 1, bench.flops(0));
    }

    private static void beginsAtZero() {
        Due.flops("always 1", "a", "100", "010");
        Due.flops("next 1", "a a", "100", "010", "000");
        Due.flops("{a;b;c}", "a b", "10000", "00100", "00010");
        Due.flops("(a until b)", "a b a", "100", "010", "000", "000");
    }

    private static void beginsWithLast() {
        // The row of no letters has no last place.
        Due.flops("{a[*]}|->always 1", "- -", "1000", "0000", "0000");
        Due.flops("{a[*]}|->always 1", "a -", "1000", "0110", "0010");
        Due.flops("{a;b}|->next 1", "a b -", "100000", "001000", "000110", "000000");
        Due.flops("{a[*2..3]}|->next 1", "a a a a", "1000000", "0010000", "0001010", "0000110", "0000000");
    }

    private static void beginsBehind() {
        // Behind the row of no letters is where the part itself began.
        Due.flops("{a[*]}|=>always 1", "-", "1000", "0010");
        Due.flops("{a[*0]}|=>always 1", "-", "1000", "0010");
        Due.flops("{a}|=>always 1", "a -", "10000", "00100", "00010");
        Due.flops("{a}|=>always 1", "- a", "10000", "00000", "00000");
        Due.flops("{a;b}|=>next 1", "a b - -", "100000", "001000", "000100", "000010", "000000");
        Due.flops("always {a[*0]}|=>next[2] 1", "a a a", "100000", "010100", "010110", "010110");
    }

    private static void beginsIf() {
        Due.flops("a->always 1", "a -", "100", "010", "010");
        Due.flops("a->always 1", "- a", "100", "000", "000");
        Due.flops("0->always 1", "a", "100", "000");
        Due.flops("next a->next 1", "- a a", "1000", "0100", "0010", "0000");
        Due.flops("next a->next 1", "a - a", "1000", "0100", "0000", "0000");
    }

    private static void beginsAlways() {
        Due.flops("always next 1", "a a a", "1000", "0110", "0110", "0110");
        Due.flops("next always next 1", "a a a", "10000", "01000", "00110", "00110");
        Due.flops("always a->next 1", "a - a", "1000", "0110", "0100", "0110");
    }

    private static void beginsNext() {
        Due.flops("next next 1", "a a a", "1000", "0100", "0010", "0000");
        Due.flops("next[2] next 1", "a a a a", "10000", "01000", "00100", "00010", "00000");
        Due.flops("next[0] next 1", "a a", "100", "010", "000");
        Due.flops("next[0] next[0] always 1", "a", "100", "010");
    }

    private static void beginsUntil() {
        Due.flops("(next 1 until a)", "- - a -", "1000", "0110", "0110", "0000", "0000");
        Due.flops("(next 1 until a)", "a -", "1000", "0000", "0000");
        Due.flops("(always 1 until a)", "- a", "1000", "0110", "0010");
        Due.flops("(always 1 until a)", "a -", "1000", "0000", "0000");
    }

    private static void beginsBoth() {
        Due.flops("(next 1 and next[2] 1)", "a a a", "10000", "01100", "00010", "00000");
        Due.flops("next(next 1 and always 1)", "a a a", "10000", "01000", "00110", "00010");
        Due.flops("(a->always 1 and b->next 1)", "b", "1000", "0010");
    }

    private static void placesHaveLetters() {
        // Without a letter nothing began, not even with the row of no letters.
        for (String property : new String[] {"a", "{a}", "{a[*]}", "{a[*]}|->always 1", "{a[*]}|=>always 1", "a->b", "always a",
            "never {a}", "never {a[*]}", "next a", "next[9] a", "(a until b)", "(a before b)", "(always a and never {b})"}) {
            AssertionBench bench = Text.bench(property);
            Check.same(property, "1" + "0".repeat(bench.flops(0) - 1), Text.flops(bench, 0));
            bench.letter(1);
            bench.clear();
            Check.same(property + " cleared", "1" + "0".repeat(bench.flops(0) - 1), Text.flops(bench, 0));
        }
        // What begins behind the last letter has not begun yet.
        Due.flops("{a}|=>never {b}", "a -", "100000", "001000", "000100");
        Due.flops("next {a}", "a b", "1000", "0100", "0001");
    }

    private static void noLetter() {
        Due.flops("1", "a b", "10", "00", "00");
        AssertionBench bench = Text.bench("always a");
        Check.holds("none", bench.flop(0, 0));
        bench.letter(0);
        Check.holds("one", !bench.flop(0, 0));
        bench.clear();
        Check.holds("none again", bench.flop(0, 0));
    }

    private static void inOrder() {
        Due.flops("always next[2] (a until b)", "a b", "100000", "011000", "011100");
        Due.flops("({a;b} and (always 1 and next 1))", "a b", "100000", "001110", "000100");
        Due.flops("{a}|->{a;b}|=>always 1", "a b -", "10000000", "00101000", "00000100", "00000010");
    }

    private static void plain() {
        // a[->2] has the classes none, a, a a and a dead one: the first two go on and are no rows.
        Due.flops("{a[->2]}", "- a - a -", "1000", "0100", "0010", "0010", "0000", "0000");
        // Once a row ended it is good, though longer ones would still go on.
        Due.flops("{a||{a;b;c}}", "a b c", "1000", "0000", "0000", "0000");
        // So it is if the row of no letters is one.
        Due.flops("{{a;b}[*0..1]}", "a b", "100", "000", "000");
        Due.flops("{a[*]}", "a", "10", "00");
        // Each place at which it began counts.
        Due.flops("always {a;b}", "a ab a", "10000", "01010", "01010", "01011");
        Due.flops("always {a[->1]}", "- - a", "1000", "0110", "0110", "0100");
        // Also behind a failing.
        Due.flops("{a;b}", "b a b", "1000", "0001", "0001", "0001");
        Due.flops("always {a;b}", "b a b", "10000", "01001", "01011", "01001");
        // One that can never be good goes on as well.
        Due.flops("{a;0}", "a a", "1000", "0010", "0001");
        // Letters of a word that was cleared are none of this one; and all 24 are.
        AssertionBench bench = Text.bench("{a;b}");
        Text.letters(bench, "a b");
        bench.clear();
        bench.letter(1);
        Check.same("b has not come again", "0010", Text.flops(bench, 0));
        AssertionBench most = Text.bench("{a[->2]}");
        for (int n = 0; n < 23; n++) {
            most.letter(2);
        }
        most.letter(1);
        Check.same("behind 24 letters", "0010", Text.flops(most, 0));
    }

    private static void rows() {
        Due.flops("{a}|->1", "a a", "1000", "0010", "0000");
        Due.flops("{a}|=>1", "a a", "1000", "0010", "0000");
        Due.flops("{a;b}|->1", "a b a", "10000", "00100", "00010", "00000");
        Due.flops("{a[*]}|->1", "a a - a", "100", "010", "010", "000", "000");
        Due.flops("{a[*0..1]}|->1", "a a", "1000", "0010", "0000");
        Due.flops("always {a;b}|->1", "a a b", "100000", "010100", "010100", "010010");
        Due.flops("{a;0}|->1", "a a", "1000", "0010", "0000");
        Due.flops("{a&&{b;c}}|->1", "a", "10", "00");
    }

    private static void never() {
        Due.flops("never {a;b}", "- a b -", "10000", "01000", "01100", "01011", "01001");
        // From places behind the one at which it began, too.
        Due.flops("never {a;b;c}", "a a b", "100000", "011000", "011000", "010100");
        Due.flops("next never {b}", "b b -", "10000", "01000", "00111", "00101");
        // Ahead of where it begins no place counts, and no end either.
        Due.flops("a->never {b}", "- b b", "1000", "0000", "0000", "0000");
        Due.flops("a->never {b}", "a - b", "1000", "0100", "0100", "0111");
        Due.flops("next[2] never {b}", "b b b", "100000", "010000", "001000", "000111");
        Due.flops("never {a[*]}", "- a", "100", "010", "011");
        Due.flops("never {a&&{b;c}}", "a", "10", "00");
    }

    private static void always() {
        Due.flops("always a", "a - a", "100", "010", "011", "011");
        Due.flops("next always a", "- a", "1000", "0100", "0010");
        Due.flops("a->always b", "- -", "100", "000", "000");
        Due.flops("a->always b", "a -", "100", "011", "011");
    }

    private static void next() {
        Due.flops("next 1", "a a", "100", "010", "000");
        for (int n = 0; n <= 9; n++) {
            AssertionBench bench = Text.bench("next[" + n + "] 1");
            Check.same("next of " + n, n + 2, bench.flops(0));
            for (int letters = 1; letters <= 11; letters++) {
                bench.letter(0);
                StringBuilder due = new StringBuilder("0");
                for (int k = 1; k <= n; k++) {
                    due.append(k == letters ? '1' : '0');
                }
                Check.same("next of " + n + " behind " + letters, due.append('0').toString(), Text.flops(bench, 0));
            }
        }
        Due.flops("always a->next[3] 1", "a - a", "100000", "011000", "010100", "011010");
    }

    private static void open() {
        Due.flops("(1 until a)", "- - a -", "100", "010", "010", "000", "000");
        Due.flops("(1 until a)", "a", "100", "000");
        Due.flops("(a before b)", "- - a b", "100", "010", "010", "000", "000");
        Due.flops("(a before b)", "- b b", "100", "010", "011", "011");
        Due.flops("(a before b)", "ab -", "100", "001", "001");
        Due.flops("always (1 until a)", "- a -", "1000", "0110", "0100", "0110");
        Due.flops("next (a before b)", "a - a", "1000", "0100", "0010", "0000");
    }

    private static void last() {
        Due.flops("a", "a a", "10", "00", "00");
        Due.flops("a", "- a", "10", "01", "01");
        Due.flops("next a", "a - a", "100", "010", "001", "001");
        AssertionBench bench = Text.bench("always a", "next[2] 0");
        Text.letters(bench, "a -");
        Check.holds("property 0 has failed", bench.flop(0, bench.flops(0) - 1));
        Check.holds("property 1 not yet", !bench.flop(1, bench.flops(1) - 1));
        bench.letter(0);
        Check.holds("then it has", bench.flop(1, bench.flops(1) - 1));
    }
}
