import java.util.NoSuchElementException;

/** What holds of every call, and promises 1 to 9: texts, properties, words and rows. */
final class CallEdges {
    private static final Class<IllegalArgumentException> ARGUMENT = IllegalArgumentException.class;
    private static final Class<IndexOutOfBoundsException> INDEX = IndexOutOfBoundsException.class;
    private static final Class<IllegalStateException> STATE = IllegalStateException.class;
    private static final Class<UnsupportedOperationException> UNSUPPORTED = UnsupportedOperationException.class;

    private CallEdges() {
    }

    static void run() {
        Edge.in("What it is");
        Edge.says("An object is used for at most 512 calls after it has been made", CallEdges::fiveHundredAndTwelve);
        Edge.in("Every call");
        Edge.says("A call that throws changes nothing.", CallEdges::changesNothing);
        Edge.says("Of several exceptions that one is thrown which the call names first.", CallEdges::namedFirst);
        Edge.says("Words, runs and witnesses stay with calls that tell nothing of them.", CallEdges::stay);
        Edge.says("There is none.", CallEdges::none);
        Edge.in("Promise 1");
        Edge.says("An empty text; both properties 1; no word; a design of one input and no latches, all signals that input.",
                CallEdges::newObject);
        Edge.in("Promise 2");
        Edge.says("Four more signs, the lowest byte first (0 is left out): how many there are.", CallEdges::put);
        Edge.says("IllegalArgumentException if a byte is neither 0 nor 32 .. 126;", CallEdges::putWrong);
        Edge.says("UnsupportedOperationException if there would be more than 400.", CallEdges::putTooMany);
        Edge.in("Promise 3");
        Edge.says("The text has its first n signs.", CallEdges::end);
        Edge.says("IllegalArgumentException if n is below 0 or above how many there are.", CallEdges::endWrong);
        Edge.in("Promise 4");
        Edge.says("Reads the text, which is empty then: NONE, and it is property p, there is no word, no run and no witness;",
                CallEdges::read);
        Edge.says("or its fault (all else stays).", CallEdges::readFault);
        Edge.says("IndexOutOfBoundsException if there is no such property.", CallEdges::readWrong);
        Edge.in("Promise 5");
        Edge.says("A letter more: which properties the word fails (a bit each).", CallEdges::letter);
        Edge.says("IllegalArgumentException if it is not 0 .. 63;", CallEdges::letterWrong);
        Edge.says("UnsupportedOperationException if there would be more than 24.", CallEdges::letterTooMany);
        Edge.in("Promise 6");
        Edge.says("The word is empty again.", CallEdges::clear);
        Edge.in("Promise 7");
        Edge.says("0 how many letters the word has, 1 and 2 how many it had when it failed property 0 and 1 first (0 if it "
                + "doesn't).", CallEdges::word);
        Edge.says("IllegalArgumentException for another what.", CallEdges::wordWrong);
        Edge.in("Promise 8");
        Edge.says("Whether the letters from place i to j - 1 are a row of property p's first sequence (by its place in the "
                + "text).", CallEdges::row);
        Edge.says("IndexOutOfBoundsException if there is no such property;", CallEdges::rowOfNoProperty);
        Edge.says("IllegalArgumentException if i and j are not 0 .. the word's length, i not above j;", CallEdges::rowWrong);
        Edge.says("IllegalStateException if the property has no sequence.", CallEdges::rowOfNoSequence);
        Edge.in("Promise 9");
        Edge.says("Whether the letters from place i to j - 1 go on to it.", CallEdges::goesOn);
        Edge.says("Exceptions as for row().", CallEdges::goesOnWrong);
    }

    private static void fiveHundredAndTwelve() {
        // Three calls to read the property, 508 more, and then one that must still be right.
        AssertionBench bench = new AssertionBench();
        Text.put(bench, "always a");
        bench.read(0);
        for (int n = 0; n < 254; n++) {
            Check.same("a letter", 0, bench.letter(1));
            bench.clear();
        }
        Check.same("the 512th call", 1, bench.letter(0));
        // As many texts as there may be, of which the last one counts.
        bench = new AssertionBench();
        for (int n = 0; n < 255; n++) {
            bench.put(n % 2 == 0 ? 'a' : 'b');
            Check.same("a text", -1, bench.read(n % 2));
        }
        Check.same("the 511th call", 2, bench.letter(1));
        Check.same("the 512th call", 1, bench.word(0));
        // As many gates, signals and numbers.
        bench = new AssertionBench();
        for (int n = 0; n < 255; n++) {
            bench.signal(n % 6, n % 4);
            Check.same("its sign", 48 + n % 4, bench.number(16 + 2 * (n % 6)));
        }
        Check.same("the 511th call", 2, bench.has(3 + 254 % 6));
        Check.same("the 512th call", 1, bench.has(0));
    }

    /** Something of everything: a text, properties, a word that failed one, a design, a run and a witness. */
    private static AssertionBench full() {
        AssertionBench bench = Text.bench("always {a;b}", "{a}|->b");
        Text.readDesign(bench, "input x;input y;latch q 1;next q=x&y;signal a=1;signal b=q;");
        Check.same("a run", 2, bench.search(0, 3));
        Check.same("a witness", 1, bench.differ(2, 3));
        Text.letters(bench, "a ab -");
        Text.put(bench, "next a");
        return bench;
    }

    private static void changesNothing() {
        AssertionBench bench = full();
        String before = State.of(bench);
        int most = Integer.MAX_VALUE;
        int least = Integer.MIN_VALUE;
        Check.Deed[] deeds = {
            () -> bench.put(1), () -> bench.put('a' | 127 << 8), () -> bench.put('a' | 'b' << 8 | 'c' << 16 | 255 << 24),
            () -> bench.end(-1), () -> bench.end(7), () -> bench.end(least), () -> bench.end(most),
            () -> bench.read(-1), () -> bench.read(2), () -> bench.read(most),
            () -> bench.letter(-1), () -> bench.letter(64), () -> bench.letter(least),
            () -> bench.word(-1), () -> bench.word(3), () -> bench.row(2, 0, 0), () -> bench.row(0, 1, 0),
            () -> bench.row(0, 0, 4), () -> bench.goesOn(-1, 0, 0), () -> bench.goesOn(0, -1, 0),
            () -> bench.classes(2), () -> bench.classOf(0, 0, 4), () -> bench.classBehind(0, 99, 0),
            () -> bench.classBehind(0, 0, 64), () -> bench.kind(0, -1), () -> bench.flops(-1), () -> bench.flop(0, 99),
            () -> bench.number(-1), () -> bench.has(9), () -> bench.has(-1), () -> bench.design(0, 0),
            () -> bench.design(4, 5), () -> bench.design(3, 6), () -> bench.design(1, -1), () -> bench.gate(0, 10),
            () -> bench.gate(10, 0), () -> bench.gate(-1, 0), () -> bench.latch(1, 0, true), () -> bench.latch(-1, 0, true),
            () -> bench.latch(0, 10, false), () -> bench.latch(0, -1, false), () -> bench.signal(6, 0),
            () -> bench.signal(0, 10), () -> bench.signal(0, -1), () -> bench.search(2, 1), () -> bench.search(0, 0),
            () -> bench.search(0, 7), () -> bench.run(9, 0), () -> bench.run(0, 3), () -> bench.run(-1, 0),
            () -> bench.differ(0, 1), () -> bench.differ(4, 1), () -> bench.differ(3, 5), () -> bench.differ(1, 0),
            () -> bench.witness(9), () -> bench.witness(-1),
        };
        for (int k = 0; k < deeds.length; k++) {
            int at = k;
            String outcome = Check.outcome(() -> {
                deeds[at].done();
                return "nothing";
            });
            Check.holds("call " + k + " throws", outcome.endsWith("Exception"));
            Check.same("call " + k + " changes nothing", before, State.of(bench));
        }
        Check.same("the text is the same", -1, bench.read(0));
        Check.same("it is next a", "01", Text.letters(bench, "- -"));
        fullChangesNothing();
    }

    /** The same of calls for which there is no room any more. */
    private static void fullChangesNothing() {
        AssertionBench bench = full();
        Text.put(bench, " ".repeat(392));
        for (int n = 3; n < 24; n++) {
            bench.letter(n);
        }
        for (int n = 0; n < 59; n++) {
            bench.gate(2 * n, 2 * n + 1);
        }
        Check.same("a run again", 2, bench.search(0, 3));
        Check.same("one that finds none of property 1", 0, bench.search(1, 1));
        Check.same("and another look", 2, bench.search(0, 3));
        String before = State.of(bench);
        Check.fails("signs", UNSUPPORTED, () -> bench.put('a' | 'b' << 8 | 'c' << 16));
        Check.fails("letters", UNSUPPORTED, () -> bench.letter(1));
        Check.fails("gates", UNSUPPORTED, () -> bench.gate(0, 0));
        Check.fails("searches", UNSUPPORTED, () -> bench.search(0, 1));
        Check.fails("looks", UNSUPPORTED, () -> bench.differ(1, 1));
        Check.same("nothing has changed", before, State.of(bench));
        Check.same("two signs still fit", 400, bench.put('a' | 'b' << 8));
    }

    private static void namedFirst() {
        AssertionBench bench = Text.bench("a", "{a;b;c;d;e;f;a}");
        Text.put(bench, " ".repeat(400));
        for (int n = 0; n < 24; n++) {
            bench.letter(0);
        }
        for (int n = 0; n < 60; n++) {
            bench.gate(0, 0);
        }
        for (int n = 0; n < 5; n++) {
            bench.differ(3, 1);
        }
        Check.fails("put: a wrong byte ahead of no room", ARGUMENT, () -> bench.put('a' | 1 << 8));
        Check.fails("letter: a wrong one ahead of no room", ARGUMENT, () -> bench.letter(64));
        Check.fails("row: property", INDEX, () -> bench.row(2, 1, 0));
        Check.fails("row: places ahead of no sequence", ARGUMENT, () -> bench.row(0, 1, 0));
        Check.fails("row: no sequence", STATE, () -> bench.row(0, 0, 0));
        Check.fails("goesOn: property", INDEX, () -> bench.goesOn(-1, 1, 0));
        Check.fails("goesOn: places ahead of no sequence", ARGUMENT, () -> bench.goesOn(0, 0, 25));
        Check.fails("goesOn: no sequence", STATE, () -> bench.goesOn(0, 0, 0));
        Check.fails("classes: property", INDEX, () -> bench.classes(2));
        Check.fails("classes: no sequence", STATE, () -> bench.classes(0));
        Check.fails("classes: weight", UNSUPPORTED, () -> bench.classes(1));
        Check.fails("classOf: property", INDEX, () -> bench.classOf(2, 1, 0));
        Check.fails("classOf: places ahead of no sequence", ARGUMENT, () -> bench.classOf(0, 1, 0));
        Check.fails("classOf: places ahead of weight", ARGUMENT, () -> bench.classOf(1, 1, 0));
        Check.fails("classOf: no sequence", STATE, () -> bench.classOf(0, 0, 0));
        Check.fails("classOf: weight", UNSUPPORTED, () -> bench.classOf(1, 0, 0));
        Check.fails("classBehind: property", INDEX, () -> bench.classBehind(-1, -1, -1));
        Check.fails("classBehind: no sequence ahead of class and letter", STATE, () -> bench.classBehind(0, -1, 64));
        Check.fails("classBehind: weight ahead of class and letter", UNSUPPORTED, () -> bench.classBehind(1, -1, 64));
        Check.fails("kind: property", INDEX, () -> bench.kind(2, -1));
        Check.fails("kind: no sequence ahead of class", STATE, () -> bench.kind(0, -1));
        Check.fails("kind: weight ahead of class", UNSUPPORTED, () -> bench.kind(1, -1));
        Check.fails("flops: property", INDEX, () -> bench.flops(2));
        Check.fails("flop: property", INDEX, () -> bench.flop(2, -1));
        Check.fails("flop: not small ahead of none such", UNSUPPORTED, () -> bench.flop(1, -1));
        Check.fails("flop: none such", NoSuchElementException.class, () -> bench.flop(0, -1));
        Check.fails("gate: literal ahead of no room", ARGUMENT, () -> bench.gate(0, 124));
        Check.fails("gate: no room", UNSUPPORTED, () -> bench.gate(0, 123));
        Check.fails("search: property", INDEX, () -> bench.search(2, 0));
        Check.fails("search: k ahead of no more", ARGUMENT, () -> bench.search(0, 13));
        Check.fails("search: no more", UNSUPPORTED, () -> bench.search(0, 12));
        Check.fails("differ: n ahead of no more", ARGUMENT, () -> bench.differ(4, 1));
        Check.fails("differ: k ahead of no more", ARGUMENT, () -> bench.differ(1, 0));
        Check.fails("differ: no more", UNSUPPORTED, () -> bench.differ(1, 1));
        AssertionBench none = new AssertionBench();
        Check.fails("run: none is found", STATE, () -> none.run(-1, 3));
        Check.fails("witness: there is none", STATE, () -> none.witness(-1));
        Text.read(none, 0, "a");
        none.search(0, 1);
        Check.fails("run: cycle ahead of what", INDEX, () -> none.run(1, 3));
        Check.fails("run: what", ARGUMENT, () -> none.run(0, 3));
    }

    private static void stay() {
        AssertionBench bench = full();
        String word = State.word(bench);
        String run = State.run(bench);
        String witness = State.witness(bench);
        // Reading it changes nothing of it, nor do texts and faults.
        State.of(bench);
        bench.put('#');
        bench.end(3);
        Check.same("a fault", 0, bench.read(0));
        Text.readDesign(bench, "input");
        Text.readNumbers(bench, "aag");
        Check.same("word", word, State.word(bench));
        Check.same("run", run, State.run(bench));
        Check.same("witness", witness, State.witness(bench));
        bench.letter(5);
        Check.same("run with a letter", run, State.run(bench));
        Check.same("witness with a letter", witness, State.witness(bench));
        bench.clear();
        Check.same("run with clear", run, State.run(bench));
        Check.same("witness with clear", witness, State.witness(bench));
        Text.letters(bench, "a ab -");
        bench.differ(1, 1);
        Check.same("word with a look", word, State.word(bench));
        Check.same("run with a look", run, State.run(bench));
        bench.differ(2, 3);
        Check.same("the witness is found again", witness, State.witness(bench));
        bench.search(1, 1);
        Check.same("word with a search", word, State.word(bench));
        Check.same("witness with a search", witness, State.witness(bench));
        bench.design(2, 1);
        bench.gate(2, 3);
        bench.latch(0, 2, true);
        bench.signal(0, 4);
        Text.readDesign(bench, "input x;");
        Text.readNumbers(bench, "aag 1 1 0 6 0 2 2 2 2 2 2 2");
        Check.same("word with designs", word, State.word(bench));
        Check.same("witness with designs", witness, State.witness(bench));
        Check.holds("its letters with designs", bench.row(0, 0, 2) && !bench.row(0, 1, 3));
    }

    private static void none() {
        Check.same("NONE", -1, AssertionBench.NONE);
        AssertionBench bench = new AssertionBench();
        bench.put('a');
        Check.same("no fault", AssertionBench.NONE, bench.read(0));
        Text.put(bench, "input x;");
        Check.same("no fault", AssertionBench.NONE, bench.readDesign());
        Check.same("no sign", AssertionBench.NONE, bench.number(1000));
    }

    private static void newObject() {
        AssertionBench bench = new AssertionBench();
        Check.same("an empty text", 0, bench.put(0));
        Check.refuses("no first sign", ARGUMENT, () -> bench.end(1));
        for (int p = 0; p < 2; p++) {
            int which = p;
            Check.same("no flip-flops but two", 2, bench.flops(p));
            Check.fails("no sequence", STATE, () -> bench.row(which, 0, 0));
            Check.same("it never fails", 0, bench.search(p, 12));
        }
        Check.same("no word", "0 0 0", State.word(bench));
        Check.same("the design", "aag 1 1 0 6 0 2 2 2 2 2 2 2", Text.numbers(bench));
        for (int what = 0; what <= 8; what++) {
            Check.same("has " + what, what == 0 ? 1 : what < 3 ? 0 : 2, bench.has(what));
        }
        Check.fails("no run", STATE, () -> bench.run(0, 0));
        Check.fails("no witness", STATE, () -> bench.witness(0));
        for (int v = 0; v < 24; v++) {
            Check.same("letter " + v, 0, bench.letter(v * 5 % 64));
        }
        Check.same("the fault of the empty text", 0, new AssertionBench().read(0));
        Check.same("as a design's", 0, new AssertionBench().readDesign());
        Check.same("as numbers'", 0, new AssertionBench().readNumbers());
    }

    private static void put() {
        AssertionBench bench = new AssertionBench();
        Check.same("no sign", 0, bench.put(0));
        Check.same("four signs", 4, bench.put('{' | 'a' << 8 | ';' << 16 | 'b' << 24));
        Check.same("one, behind zeros", 5, bench.put('}' << 24));
        Check.same("in that order", -1, bench.read(0));
        Check.holds("it is {a;b}", Text.letters(bench, "a b").equals("00") && bench.row(0, 0, 2));
        for (int k = 0; k < 4; k++) {
            Check.same("one sign in byte " + k, 1, bench.put('a' << 8 * k));
            bench.end(0);
            Check.same("three, but for byte " + k, 3, bench.put(0x61616161 & ~(255 << 8 * k)));
            bench.end(0);
        }
        Check.same("signs with zeros between", 2, bench.put('!' | 'a' << 16));
        Check.same("are one behind the other", -1, bench.read(0));
        Check.same("it is !a", 1, bench.letter(1));
    }

    private static void putWrong() {
        AssertionBench bench = new AssertionBench();
        for (int sign = 0; sign < 256; sign++) {
            for (int k = 0; k < 4; k++) {
                int signs = 0x61616161 & ~(255 << 8 * k) | sign << 8 * k;
                boolean right = sign == 0 || sign >= 32 && sign <= 126;
                String due = !right ? "IllegalArgumentException" : sign == 0 ? "3" : "4";
                Check.same("sign " + sign + " in byte " + k, due, Check.outcome(() -> bench.put(signs)));
                Check.same("how many came", right ? (sign == 0 ? 3 : 4) : 0, bench.put(0));
                bench.end(0);
            }
        }
    }

    private static void putTooMany() {
        for (int had = 396; had <= 400; had++) {
            for (int more = 0; more <= 4; more++) {
                AssertionBench bench = new AssertionBench();
                Text.put(bench, "a".repeat(had));
                int signs = more == 0 ? 0 : 0x61616161 >>> 8 * (4 - more);
                String due = had + more > 400 ? "UnsupportedOperationException" : String.valueOf(had + more);
                Check.same(had + " and " + more, due, Check.outcome(() -> bench.put(signs)));
                Check.same("how many there are", had + more > 400 ? had : had + more, bench.put(0));
            }
        }
    }

    private static void end() {
        String text = "a|b&c";
        for (int n = 0; n <= text.length(); n++) {
            AssertionBench bench = new AssertionBench();
            Text.put(bench, text);
            bench.end(n);
            Check.same("how many there are", n, bench.put(0));
            Check.same("the fault of " + text.substring(0, n), FaultModel.fault(text.substring(0, n)), bench.read(0));
        }
        AssertionBench bench = new AssertionBench();
        Text.put(bench, "a#");
        bench.end(1);
        bench.put('|' | 'b' << 8);
        Check.same("more signs come behind the first n", -1, bench.read(0));
        Check.same("it is a|b", 0, bench.letter(2));
        AssertionBench most = new AssertionBench();
        Text.put(most, "a".repeat(400));
        most.end(400);
        Check.same("all four hundred", 400, most.put(0));
        most.end(0);
        Check.same("none", 0, most.put(0));
    }

    private static void endWrong() {
        AssertionBench bench = new AssertionBench();
        Check.refuses("1 of none", ARGUMENT, () -> bench.end(1));
        bench.end(0);
        Text.put(bench, "aaaa");
        Check.refuses("-1", ARGUMENT, () -> bench.end(-1));
        Check.refuses("5 of 4", ARGUMENT, () -> bench.end(5));
        Check.refuses("the least", ARGUMENT, () -> bench.end(Integer.MIN_VALUE));
        Check.refuses("the most", ARGUMENT, () -> bench.end(Integer.MAX_VALUE));
        bench.end(4);
        bench.end(2);
        Check.refuses("what was there before", ARGUMENT, () -> bench.end(3));
        Check.same("two", 2, bench.put(0));
    }

    private static void read() {
        for (int p = 0; p < 2; p++) {
            AssertionBench bench = full();
            bench.end(0);
            Check.same("no fault", -1, Text.read(bench, p, "b"));
            Check.same("the text is empty then", 0, bench.put(0));
            Check.same("no word", "0 0 0", State.word(bench));
            Check.fails("no run", STATE, () -> bench.run(0, 0));
            Check.fails("no witness", STATE, () -> bench.witness(0));
            Check.same("it is property " + p, p == 0 ? 3 : 2, bench.letter(1));
        }
        nothingIsLeft();
    }

    /** Of texts that were read before, with faults or without, nothing is left in one that is read now. */
    private static void nothingIsLeft() {
        String[] texts = {"{a[*]}|->{b[*];c}", "{{a;b}[*3]&&c[*]}", "{b}", "{f;!b;c}", "next {{a:b[+]}[*]}", "{c[->3]}", "{d[=2];a}",
            "{a[*0]}", "{a||b||c}", "never {b;b}", "{1[*6]}|=>a", "{a&&b&&c}", "(a until b)", "{e}", "{{a;b;c;d;e}[*8]}", "{!a}"};
        String[] faults = {"((((", "{{{{a;b", "{{{{a[*9]}[*9]}[*9]}", "(a and {b", "{a[*9]||{b;c}#", "", "(((a and b)", "{a}|->("};
        int[] word = Text.word("a b ab - abc c bc f e d");
        AssertionBench bench = new AssertionBench();
        for (int n = 0; n < 4 * texts.length; n++) {
            String text = texts[n * 5 % texts.length];
            Check.holds("a fault", Text.read(bench, n % 2, faults[n % faults.length]) >= 0);
            Check.same(text, -1, Text.read(bench, n % 2, text));
            AssertionBench fresh = new AssertionBench();
            Text.read(fresh, 0, text);
            for (int v : word) {
                int fails = bench.letter(v) >> n % 2 & 1;
                Check.same(text + " fails", fresh.letter(v), fails);
                Check.same(text, State.property(fresh, 0), State.property(bench, n % 2));
            }
        }
    }

    private static void readFault() {
        AssertionBench bench = full();
        bench.put('#');
        String before = State.of(bench).replace("signs 7", "signs 0");
        Check.same("a fault", 6, bench.read(1));
        Check.same("all stays but the text", before, State.of(bench));
        Check.same("the fault of the empty text", 0, bench.read(1));
        Check.same("all stays", before, State.of(bench));
        Check.same("too great", 0, Text.read(bench, 0, "{{a;b}[*9];{b;c}[*9];{a;b}[*9]}"));
        Check.same("all stays", before, State.of(bench));
        Check.same("a fault behind a sequence", 3, Text.read(bench, 0, "{b}#"));
        Check.same("all stays", before, State.of(bench));
        bench.clear();
        Check.same("both properties stay", "011", Text.letters(bench, "ab a -"));
    }

    private static void readWrong() {
        AssertionBench bench = full();
        String before = State.of(bench);
        for (int p : new int[] {-1, 2, 3, Integer.MAX_VALUE, Integer.MIN_VALUE}) {
            Check.fails("property " + p, INDEX, () -> bench.read(p));
        }
        Check.same("the text stays, too", before, State.of(bench));
        Check.same("no fault", -1, bench.read(1));
    }

    private static void letter() {
        AssertionBench bench = Text.bench("a", "b");
        int[] due = {3, 2, 1, 0};
        for (int v = 0; v < 4; v++) {
            bench.clear();
            Check.same("letter " + v, due[v], bench.letter(v));
            Check.same("it stays so", due[v], bench.letter(3));
        }
        AssertionBench later = Text.bench("always a", "next[2] b");
        Check.same("one, then both", "0133", Text.letters(later, "a - a a"));
    }

    private static void letterWrong() {
        AssertionBench bench = Text.bench("always a");
        for (int v : new int[] {-1, 64, 65, 127, 128, Integer.MAX_VALUE, Integer.MIN_VALUE}) {
            Check.fails("letter " + v, ARGUMENT, () -> bench.letter(v));
        }
        Check.same("none came", "0 0 0", State.word(bench));
        Check.same("letter 63", 0, bench.letter(63));
        Check.same("letter 0", 1, bench.letter(0));
    }

    private static void letterTooMany() {
        AssertionBench bench = Text.bench("always a", "{a[*9];a[*9];a[*6]}");
        for (int n = 1; n <= 24; n++) {
            Check.same("letter " + n, 0, bench.letter(1));
        }
        Check.fails("a 25th", UNSUPPORTED, () -> bench.letter(0));
        Check.same("it did not come", "24 0 0", State.word(bench));
        Check.holds("all 24 are a row", bench.row(1, 0, 24));
        bench.clear();
        Check.same("then there is room again", 1, bench.letter(0) & 1);
    }

    private static void clear() {
        AssertionBench bench = full();
        bench.clear();
        Check.same("no letters, nothing failed", "0 0 0", State.word(bench));
        Check.fails("no place", ARGUMENT, () -> bench.row(0, 0, 1));
        bench.clear();
        Check.same("an empty one stays empty", "0 0 0", State.word(bench));
        Check.same("the properties stay", 1, bench.letter(4));
        AssertionBench other = Text.bench("{a;b}", "(a until b)");
        Text.letters(other, "a a b");
        other.clear();
        Check.same("nothing is left of what came before", "000", Text.letters(other, "a b -"));
    }

    private static void word() {
        AssertionBench bench = Text.bench("always a", "next[2] b");
        Check.same("none", "0 0 0", State.word(bench));
        bench.letter(1);
        Check.same("one letter", "1 0 0", State.word(bench));
        bench.letter(0);
        Check.same("property 0 with the second", "2 2 0", State.word(bench));
        bench.letter(0);
        Check.same("property 1 with the third", "3 2 3", State.word(bench));
        for (int n = 4; n <= 24; n++) {
            bench.letter(0);
            Check.same("these stay", n + " 2 3", State.word(bench));
        }
        AssertionBench edges = Text.bench("0", "next[9] next[9] next[5] 0");
        for (int n = 1; n <= 24; n++) {
            edges.letter(0);
        }
        Check.same("with the first and with the last", "24 1 24", State.word(edges));
    }

    private static void wordWrong() {
        AssertionBench bench = new AssertionBench();
        for (int what : new int[] {-1, 3, 4, Integer.MAX_VALUE, Integer.MIN_VALUE}) {
            Check.fails("word " + what, ARGUMENT, () -> bench.word(what));
        }
    }

    private static void row() {
        AssertionBench bench = Text.bench("always (a -> {b}|->{a} and never {a;a})", "next {a[*]}");
        Text.letters(bench, "- b a a");
        for (int i = 0; i <= 4; i++) {
            for (int j = i; j <= 4; j++) {
                Check.same("{b} " + i + " " + j, i == 1 && j == 2, bench.row(0, i, j));
                Check.same("{a[*]} " + i + " " + j, i == j || i >= 2, bench.row(1, i, j));
            }
        }
        AssertionBench within = Text.bench("{{a;b}[*];c}|->{c}");
        Text.letters(within, "a b c");
        Check.holds("the whole one, not one within it", within.row(0, 0, 3) && within.row(0, 2, 3) && !within.row(0, 0, 2));
    }

    private static void rowWrong() {
        AssertionBench bench = Text.bench("{a}", "a");
        Text.letters(bench, "a b");
        int[][] wrong = {{-1, 0}, {-1, -1}, {0, -1}, {0, 3}, {2, 3}, {3, 3}, {1, 0}, {2, 1}, {2, 0},
            {Integer.MIN_VALUE, 2}, {0, Integer.MAX_VALUE}, {Integer.MAX_VALUE, Integer.MAX_VALUE}};
        for (int[] w : wrong) {
            Check.fails("row " + w[0] + " " + w[1], ARGUMENT, () -> bench.row(0, w[0], w[1]));
            Check.fails("row " + w[0] + " " + w[1], ARGUMENT, () -> bench.row(1, w[0], w[1]));
        }
        for (int i = 0; i <= 2; i++) {
            Check.same("no letters at " + i, false, bench.row(0, i, i));
        }
        Check.same("the first letter", true, bench.row(0, 0, 1));
        Check.same("all of them", false, bench.row(0, 0, 2));
    }

    private static void rowOfNoProperty() {
        AssertionBench bench = Text.bench("{a}", "{b}");
        Text.letters(bench, "a");
        for (int p : new int[] {-1, 2, Integer.MAX_VALUE, Integer.MIN_VALUE}) {
            Check.fails("property " + p, INDEX, () -> bench.row(p, 0, 1));
        }
        Check.holds("property 0 has that row, and property 1 has not", bench.row(0, 0, 1) && !bench.row(1, 0, 1));
    }

    private static void rowOfNoSequence() {
        for (String none : new String[] {"a", "a->b", "always a", "next a", "(a until b)", "(a before b)", "(a and b)"}) {
            AssertionBench bench = Text.bench("{a}", none);
            bench.letter(1);
            Check.fails(none, STATE, () -> bench.row(1, 0, 0));
            Check.fails(none, STATE, () -> bench.row(1, 0, 1));
        }
        for (String some : new String[] {"{a}", "{a}|->b", "{a}|=>b", "never {a}", "b->{a}", "(b and next {a})"}) {
            AssertionBench bench = Text.bench("b", some);
            bench.letter(1);
            Check.same(some, true, bench.row(1, 0, 1));
        }
    }

    private static void goesOn() {
        AssertionBench bench = Text.bench("next {a;b;c}|->{d}");
        Text.letters(bench, "a b c a a");
        String due = "0.1 0.2 0.3 1.1 2.2 3.3 3.4 4.4 4.5 5.5 0.0";
        for (int i = 0; i <= 5; i++) {
            for (int j = i; j <= 5; j++) {
                Check.same(i + " " + j, due.contains(i + "." + j), bench.goesOn(0, i, j));
            }
        }
    }

    private static void goesOnWrong() {
        AssertionBench bench = Text.bench("{a}", "a");
        Text.letters(bench, "a b");
        int[][] wrong = {{-1, 0}, {0, -1}, {0, 3}, {3, 3}, {1, 0}, {2, 1}, {Integer.MIN_VALUE, 2}, {0, Integer.MAX_VALUE}};
        for (int[] w : wrong) {
            Check.fails("goesOn " + w[0] + " " + w[1], ARGUMENT, () -> bench.goesOn(0, w[0], w[1]));
            Check.fails("goesOn " + w[0] + " " + w[1], ARGUMENT, () -> bench.goesOn(1, w[0], w[1]));
        }
        for (int p : new int[] {-1, 2, Integer.MAX_VALUE, Integer.MIN_VALUE}) {
            Check.fails("property " + p, INDEX, () -> bench.goesOn(p, 0, 0));
        }
        Check.fails("no sequence", STATE, () -> bench.goesOn(1, 0, 0));
        Check.same("no letters behind the last", true, bench.goesOn(0, 2, 2));
    }
}
