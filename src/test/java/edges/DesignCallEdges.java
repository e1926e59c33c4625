/** Promises 16 to 27: designs, searches and differences. */
final class DesignCallEdges {
    private static final Class<IllegalArgumentException> ARGUMENT = IllegalArgumentException.class;
    private static final Class<IndexOutOfBoundsException> INDEX = IndexOutOfBoundsException.class;
    private static final Class<IllegalStateException> STATE = IllegalStateException.class;
    private static final Class<UnsupportedOperationException> UNSUPPORTED = UnsupportedOperationException.class;
    private static final String LEAST = "aag 1 1 0 6 0 2 2 2 2 2 2 2";

    private DesignCallEdges() {
    }

    static void run() {
        Edge.in("Promise 16");
        Edge.says("Reads the text, which is empty then, as a design text: NONE, and it is the design, no run is found;",
                DesignCallEdges::readDesign);
        Edge.says("or its fault (all else stays).", DesignCallEdges::readDesignFault);
        Edge.in("Promise 17");
        Edge.says("Reads the text, which is empty then, as numbers: NONE, and it is the design, no run is found;",
                DesignCallEdges::readNumbers);
        Edge.says("or its fault (all else stays).", DesignCallEdges::readNumbersFault);
        Edge.in("Promise 18");
        Edge.says("Sign k of the design as numbers; NONE behind its end.", DesignCallEdges::number);
        Edge.says("IndexOutOfBoundsException if k is below 0.", DesignCallEdges::numberWrong);
        Edge.in("Promise 19");
        Edge.says("0 inputs, 1 latches, 2 gates, 3 .. 8 the literals of signals a .. f.", DesignCallEdges::has);
        Edge.says("IllegalArgumentException for another what.", DesignCallEdges::hasWrong);
        Edge.in("Promise 20");
        Edge.says("A new design: no gates; latches are 0 at first and stay as they are; all signals are the first input; no "
                + "run is found.", DesignCallEdges::design);
        Edge.says("IllegalArgumentException if inputs are not 1 .. 3, or latches not 0 .. 5.", DesignCallEdges::designWrong);
        Edge.in("Promise 21");
        Edge.says("One more gate: its value's number.", DesignCallEdges::gate);
        Edge.says("IllegalArgumentException if there is no such literal (of a value before it);", DesignCallEdges::gateWrong);
        Edge.says("UnsupportedOperationException if there are 60.", DesignCallEdges::gateTooMany);
        Edge.says("No run is found then.", DesignCallEdges::gateNoRun);
        Edge.in("Promise 22");
        Edge.says("What a latch (0 ..) is next, and at first.", DesignCallEdges::latch);
        Edge.says("IllegalArgumentException if there is no such latch or literal.", DesignCallEdges::latchWrong);
        Edge.says("No run is found then.", DesignCallEdges::latchNoRun);
        Edge.in("Promise 23");
        Edge.says("What a signal is.", DesignCallEdges::signal);
        Edge.says("IllegalArgumentException if there is no such signal or literal.", DesignCallEdges::signalWrong);
        Edge.says("No run is found then.", DesignCallEdges::signalNoRun);
        searches();
    }

    private static void searches() {
        Edge.in("Promise 24");
        Edge.says("Searches for property p: the least number of cycles; 0 if there is none (no run is found then).",
                DesignCallEdges::search);
        Edge.says("IndexOutOfBoundsException if there is no such property;", DesignCallEdges::searchOfNoProperty);
        Edge.says("IllegalArgumentException if k is below 1, or inputs times k above 9 (12 if the property is SMALL);",
                DesignCallEdges::searchWrong);
        Edge.says("UnsupportedOperationException if there were 5 searches and looks.", DesignCallEdges::searchTooMany);
        Edge.in("Promise 25");
        Edge.says("Of the run found, cycle t: 0 its inputs, 1 the letter, 2 the latches, a bit each, ahead of it.",
                DesignCallEdges::cycles);
        Edge.says("IllegalStateException if none is found;", DesignCallEdges::noneFound);
        Edge.says("IndexOutOfBoundsException if there is no such cycle;", DesignCallEdges::noSuchCycle);
        Edge.says("IllegalArgumentException for another what.", DesignCallEdges::anotherWhat);
        Edge.in("Promise 26");
        Edge.says("Looks for a difference, with n signals and up to k letters: how many letters the witness has; 0 if there "
                + "is none (there is no witness then).", DesignCallEdges::differ);
        Edge.says("IllegalArgumentException if n is not 1 .. 3, k below 1, or n times k above 9 (12 if both properties are "
                + "SMALL);", DesignCallEdges::differWrong);
        Edge.says("UnsupportedOperationException if there were 5 searches and looks.", DesignCallEdges::differTooMany);
        Edge.in("Promise 27");
        Edge.says("Letter t of the witness.", DesignCallEdges::witness);
        Edge.says("IllegalStateException if there is none;", DesignCallEdges::noWitness);
        Edge.says("IndexOutOfBoundsException if it has no such letter.", DesignCallEdges::noSuchLetter);
    }

    /** A bench of which a run of one cycle is found, with a word and a witness. */
    private static AssertionBench found() {
        AssertionBench bench = Text.bench("a");
        bench.design(1, 1);
        Check.same("a run", 1, bench.search(0, 3));
        Check.same("a witness", 1, bench.differ(1, 1));
        bench.letter(0);
        return bench;
    }

    private static void noRun(AssertionBench bench) {
        Check.fails("no run is found", STATE, () -> bench.run(0, 0));
        Check.same("the word stays", "1 1 0", State.word(bench));
        Check.same("the witness stays", 0, bench.witness(0));
    }

    private static void readDesign() {
        AssertionBench bench = found();
        Check.same("no fault", -1, Text.readDesign(bench, "input x;input y;latch q 1;signal f=x&q;"));
        Check.same("the text is empty then", 0, bench.put(0));
        Check.same("it is the design", "aag 4 2 1 6 1 2 4 6 6 1 2 2 2 2 2 8 8 2 6", Text.numbers(bench));
        noRun(bench);
        Text.put(bench, "input x;" + " ".repeat(392));
        Check.same("of 400 signs", -1, bench.readDesign());
        Check.same("it is the design", LEAST, Text.numbers(bench));
    }

    private static void readDesignFault() {
        AssertionBench bench = found();
        String before = State.of(bench);
        for (String text : new String[] {"", "input", "input x;latch q 1;signal a=q&x;#", "a", "aag 1"}) {
            Check.holds("a fault", Text.readDesign(bench, text) >= 0);
            Check.same("all stays, and the text is empty", before, State.of(bench));
        }
    }

    private static void readNumbers() {
        AssertionBench bench = found();
        Check.same("no fault", -1, Text.readNumbers(bench, "aag 4 2 1 6 1 2 4 6 6 1 2 2 2 2 2 8 8 2 6"));
        Check.same("the text is empty then", 0, bench.put(0));
        Check.same("it is the design", "aag 4 2 1 6 1 2 4 6 6 1 2 2 2 2 2 8 8 2 6", Text.numbers(bench));
        noRun(bench);
        Text.put(bench, LEAST + " ".repeat(373));
        Check.same("of 400 signs", -1, bench.readNumbers());
        Check.same("it is the design", LEAST, Text.numbers(bench));
    }

    private static void readNumbersFault() {
        AssertionBench bench = found();
        String before = State.of(bench);
        for (String text : new String[] {"", "aag", LEAST + " 1", "aag 4 2 1 6 1 2 4 6 6 1 2 2 2 2 2 8 8 2 8", "input x;"}) {
            Check.holds("a fault", Text.readNumbers(bench, text) >= 0);
            Check.same("all stays, and the text is empty", before, State.of(bench));
        }
    }

    private static void number() {
        AssertionBench bench = new AssertionBench();
        for (int k = 0; k < LEAST.length(); k++) {
            Check.same("sign " + k, (int) LEAST.charAt(k), bench.number(k));
        }
        for (int k : new int[] {LEAST.length(), LEAST.length() + 1, 400, 10000, Integer.MAX_VALUE}) {
            Check.same("sign " + k, AssertionBench.NONE, bench.number(k));
        }
        bench.design(3, 5);
        for (int k = 0; k < 60; k++) {
            bench.gate(2 * k, 2 * k + 1);
        }
        String text = Text.numbers(bench);
        Check.same("more than a text can have", (int) '9', bench.number(text.length() - 1));
        Check.same("behind them", AssertionBench.NONE, bench.number(text.length()));
        // As the design is now, whatever changed it.
        bench.design(1, 1);
        Check.same("design", "aag 2 1 1 6 0 2 4 4 0 2 2 2 2 2 2", Text.numbers(bench));
        bench.gate(2, 3);
        Check.same("gate", "aag 3 1 1 6 1 2 4 4 0 2 2 2 2 2 2 6 2 3", Text.numbers(bench));
        bench.latch(0, 7, false);
        Check.same("latch next", "aag 3 1 1 6 1 2 4 7 0 2 2 2 2 2 2 6 2 3", Text.numbers(bench));
        bench.latch(0, 7, true);
        Check.same("latch at first", "aag 3 1 1 6 1 2 4 7 1 2 2 2 2 2 2 6 2 3", Text.numbers(bench));
        bench.signal(5, 6);
        Check.same("signal", "aag 3 1 1 6 1 2 4 7 1 2 2 2 2 2 6 6 2 3", Text.numbers(bench));
        Text.readDesign(bench, "input x;");
        Check.same("readDesign", LEAST, Text.numbers(bench));
        Text.readNumbers(bench, "aag 1 1 0 6 0 2 3 3 3 3 3 3");
        Check.same("readNumbers", "aag 1 1 0 6 0 2 3 3 3 3 3 3", Text.numbers(bench));
    }

    private static void numberWrong() {
        AssertionBench bench = new AssertionBench();
        Check.fails("sign -1", INDEX, () -> bench.number(-1));
        Check.fails("the least", INDEX, () -> bench.number(Integer.MIN_VALUE));
        Check.same("sign 0", (int) 'a', bench.number(0));
    }

    private static void has() {
        AssertionBench bench = new AssertionBench();
        bench.design(3, 5);
        bench.gate(0, 0);
        for (int k = 0; k < 6; k++) {
            bench.signal(k, 19 - 3 * k);
        }
        int[] due = {3, 5, 1, 19, 16, 13, 10, 7, 4};
        for (int what = 0; what <= 8; what++) {
            Check.same("has " + what, due[what], bench.has(what));
        }
    }

    private static void hasWrong() {
        AssertionBench bench = new AssertionBench();
        for (int what : new int[] {-1, 9, 10, Integer.MAX_VALUE, Integer.MIN_VALUE}) {
            Check.fails("has " + what, ARGUMENT, () -> bench.has(what));
        }
        Check.same("has 0", 1, bench.has(0));
        Check.same("has 8", 2, bench.has(8));
    }

    private static void design() {
        AssertionBench bench = found();
        Text.readDesign(bench, "input x;latch p 1;latch q 1;next p=!q;next q=x;signal a=!p&q;signal f=!x;");
        Check.same("a run", 1, bench.search(0, 1));
        bench.design(1, 2);
        Check.same("anew", "aag 3 1 2 6 0 2 4 4 0 6 6 0 2 2 2 2 2 2", Text.numbers(bench));
        noRun(bench);
        for (int inputs = 1; inputs <= 3; inputs++) {
            for (int latches = 0; latches <= 5; latches++) {
                bench.gate(0, 1);
                bench.signal(0, 1);
                bench.design(inputs, latches);
                Check.same("inputs", inputs, bench.has(0));
                Check.same("latches", latches, bench.has(1));
                Check.same("no gates", 0, bench.has(2));
                for (int what = 3; what <= 8; what++) {
                    Check.same("the first input", 2, bench.has(what));
                }
            }
        }
    }

    private static void designWrong() {
        AssertionBench bench = found();
        String before = State.of(bench);
        int[][] wrong = {{0, 0}, {4, 0}, {-1, 0}, {1, -1}, {1, 6}, {3, 6}, {0, 6}, {Integer.MAX_VALUE, 0},
            {Integer.MIN_VALUE, 0}, {1, Integer.MAX_VALUE}, {1, Integer.MIN_VALUE}};
        for (int[] w : wrong) {
            Check.refuses("design " + w[0] + " " + w[1], ARGUMENT, () -> bench.design(w[0], w[1]));
        }
        Check.same("nothing has changed", before, State.of(bench));
        bench.design(3, 5);
        bench.design(1, 0);
        Check.same("the least", LEAST, Text.numbers(bench));
    }

    private static void gate() {
        for (int inputs = 1; inputs <= 3; inputs++) {
            for (int latches = 0; latches <= 5; latches += 5) {
                AssertionBench bench = new AssertionBench();
                bench.design(inputs, latches);
                for (int k = 0; k < 60; k++) {
                    int value = 1 + inputs + latches + k;
                    Check.same("gate " + k, value, bench.gate(2 * value - 1, 2 * value - 2));
                    Check.same("how many", k + 1, bench.has(2));
                }
            }
        }
        AssertionBench bench = new AssertionBench();
        bench.gate(3, 0);
        bench.gate(5, 4);
        Check.same("in that order", "aag 3 1 0 6 2 2 2 2 2 2 2 2 4 3 0 6 5 4", Text.numbers(bench));
    }

    private static void gateWrong() {
        AssertionBench bench = new AssertionBench();
        bench.design(1, 1);
        int[] wrong = {-1, 6, 7, 8, Integer.MAX_VALUE, Integer.MIN_VALUE};
        for (int literal : wrong) {
            Check.fails("one " + literal, ARGUMENT, () -> bench.gate(literal, 0));
            Check.fails("two " + literal, ARGUMENT, () -> bench.gate(0, literal));
        }
        Check.same("of the last latch", 3, bench.gate(5, 5));
        Check.same("of the gate ahead", 4, bench.gate(6, 7));
        Check.fails("of its own", ARGUMENT, () -> bench.gate(10, 0));
        Check.fails("of its own opposite", ARGUMENT, () -> bench.gate(0, 11));
        Check.same("of the first and the last literal", 5, bench.gate(0, 9));
    }

    private static void gateTooMany() {
        AssertionBench bench = new AssertionBench();
        for (int k = 0; k < 60; k++) {
            bench.gate(0, 0);
        }
        Check.fails("a 61st", UNSUPPORTED, () -> bench.gate(0, 0));
        Check.same("sixty", 60, bench.has(2));
        bench.design(1, 0);
        Check.same("a new design has room", 2, bench.gate(0, 0));
        Check.same("sixty as a text", -1, Text.readDesign(bench, "input x;signal a=x" + "^x".repeat(20) + ";"));
        Check.fails("a 61st behind those", UNSUPPORTED, () -> bench.gate(0, 0));
    }

    private static void gateNoRun() {
        AssertionBench bench = found();
        bench.gate(0, 0);
        noRun(bench);
        AssertionBench refused = found();
        Check.fails("no literal", ARGUMENT, () -> refused.gate(0, 6));
        Check.same("the run stays", 0, refused.run(0, 0));
    }

    private static void latch() {
        AssertionBench bench = new AssertionBench();
        bench.design(1, 5);
        for (int k = 0; k < 5; k++) {
            bench.latch(k, 13 - k, k % 2 == 0);
        }
        Check.same("all five", "aag 6 1 5 6 0 2 4 13 1 6 12 0 8 11 1 10 10 0 12 9 1 2 2 2 2 2 2", Text.numbers(bench));
        bench.latch(4, 0, false);
        bench.latch(0, 1, false);
        Check.same("told once more", "aag 6 1 5 6 0 2 4 1 0 6 12 0 8 11 1 10 10 0 12 0 0 2 2 2 2 2 2", Text.numbers(bench));
        bench.gate(0, 0);
        bench.latch(0, 15, true);
        Check.same("a gate's", "aag 7 1 5 6 1 2 4 15 1 6 12 0 8 11 1 10 10 0 12 0 0 2 2 2 2 2 2 14 0 0", Text.numbers(bench));
    }

    private static void latchWrong() {
        AssertionBench none = new AssertionBench();
        Check.refuses("there are no latches", ARGUMENT, () -> none.latch(0, 0, false));
        AssertionBench bench = new AssertionBench();
        bench.design(1, 2);
        for (int k : new int[] {-1, 2, 5, Integer.MAX_VALUE, Integer.MIN_VALUE}) {
            Check.refuses("latch " + k, ARGUMENT, () -> bench.latch(k, 0, false));
        }
        for (int literal : new int[] {-1, 8, 9, Integer.MAX_VALUE, Integer.MIN_VALUE}) {
            Check.refuses("literal " + literal, ARGUMENT, () -> bench.latch(0, literal, true));
        }
        Check.same("nothing has changed", "aag 3 1 2 6 0 2 4 4 0 6 6 0 2 2 2 2 2 2", Text.numbers(bench));
        bench.latch(1, 7, true);
        bench.latch(0, 0, true);
        Check.same("the last latch and literal", "aag 3 1 2 6 0 2 4 0 1 6 7 1 2 2 2 2 2 2", Text.numbers(bench));
    }

    private static void latchNoRun() {
        AssertionBench bench = found();
        bench.latch(0, 4, false);
        noRun(bench);
        AssertionBench refused = found();
        Check.refuses("no latch", ARGUMENT, () -> refused.latch(1, 0, true));
        Check.same("the run stays", 0, refused.run(0, 0));
    }

    private static void signal() {
        AssertionBench bench = new AssertionBench();
        for (int k = 0; k < 6; k++) {
            bench.signal(k, k % 4);
        }
        Check.same("all six", "aag 1 1 0 6 0 2 0 1 2 3 0 1", Text.numbers(bench));
        bench.gate(0, 0);
        bench.signal(0, 5);
        Check.same("a gate's opposite", 5, bench.has(3));
        bench.signal(0, 0);
        Check.same("told once more", 0, bench.has(3));
    }

    private static void signalWrong() {
        AssertionBench bench = new AssertionBench();
        for (int k : new int[] {-1, 6, 7, Integer.MAX_VALUE, Integer.MIN_VALUE}) {
            Check.refuses("signal " + k, ARGUMENT, () -> bench.signal(k, 0));
        }
        for (int literal : new int[] {-1, 4, 5, Integer.MAX_VALUE, Integer.MIN_VALUE}) {
            Check.refuses("literal " + literal, ARGUMENT, () -> bench.signal(0, literal));
        }
        Check.same("nothing has changed", LEAST, Text.numbers(bench));
        bench.signal(0, 0);
        bench.signal(5, 3);
        Check.same("the first and the last", "aag 1 1 0 6 0 2 0 2 2 2 2 3", Text.numbers(bench));
    }

    private static void signalNoRun() {
        AssertionBench bench = found();
        bench.signal(0, 2);
        noRun(bench);
        AssertionBench refused = found();
        Check.refuses("no signal", ARGUMENT, () -> refused.signal(6, 0));
        Check.same("the run stays", 0, refused.run(0, 0));
    }

    private static void search() {
        AssertionBench bench = Text.bench("next a", "1");
        Check.same("property 0", 2, bench.search(0, 4));
        Check.same("a run", 0, bench.run(1, 0));
        Check.same("not in one cycle", 0, bench.search(0, 1));
        Check.fails("no run is found then", STATE, () -> bench.run(0, 0));
        Check.same("again", 2, bench.search(0, 2));
        Check.same("property 1", 0, bench.search(1, 9));
        Check.fails("no run is found then", STATE, () -> bench.run(0, 0));
        Check.same("the word is left alone", "0 0 0", State.word(bench));
    }

    private static void searchOfNoProperty() {
        AssertionBench bench = found();
        for (int p : new int[] {-1, 2, Integer.MAX_VALUE, Integer.MIN_VALUE}) {
            Check.fails("property " + p, INDEX, () -> bench.search(p, 1));
        }
        Check.same("the run stays", 0, bench.run(0, 0));
        Check.same("property 1", 0, bench.search(1, 1));
    }

    private static void searchWrong() {
        AssertionBench bench = Text.bench("{a[*6]}|->a", "{a[*7]}|->a");
        for (int k : new int[] {0, -1, Integer.MIN_VALUE, 13, 14, Integer.MAX_VALUE}) {
            Check.fails("small, k " + k, ARGUMENT, () -> bench.search(0, k));
        }
        for (int k : new int[] {0, -1, Integer.MIN_VALUE, 10, 12, Integer.MAX_VALUE}) {
            Check.fails("not small, k " + k, ARGUMENT, () -> bench.search(1, k));
        }
        Check.same("small, 12", 0, bench.search(0, 12));
        Check.same("not small, 9", 0, bench.search(1, 9));
        bench.design(2, 0);
        Check.fails("small, 2 times 7", ARGUMENT, () -> bench.search(0, 7));
        Check.fails("not small, 2 times 5", ARGUMENT, () -> bench.search(1, 5));
        Check.same("not small, 2 times 4", 0, bench.search(1, 4));
        bench.design(3, 0);
        Check.fails("small, 3 times 5", ARGUMENT, () -> bench.search(0, 5));
        Check.fails("not small, 3 times 4", ARGUMENT, () -> bench.search(1, 4));
        Check.same("small, 3 times 4", 0, bench.search(0, 4));
        Check.same("not small, 3 times 3", 0, bench.search(1, 3));
    }

    private static void searchTooMany() {
        AssertionBench bench = found();
        for (int n = 2; n < 5; n++) {
            Check.same("look " + n, 1, bench.search(0, 1));
        }
        Check.fails("a sixth", UNSUPPORTED, () -> bench.search(0, 1));
        Check.same("the run stays", 0, bench.run(0, 0));
    }

    private static void cycles() {
        AssertionBench bench = Text.bench("{1;1;1}|->!f");
        Text.readDesign(bench, "input x;input y;latch p 0;latch q 1;next p=x;next q=p;signal a=x;signal b=y;signal c=p;"
                + "signal d=q;signal e=0;signal f=q&y;");
        Check.same("three cycles", 3, bench.search(0, 3));
        // f needs q in the third cycle, so p in the second and x in the first.
        int[][] due = {{1, 1 + 8, 2}, {0, 4, 1}, {2, 2 + 8 + 32, 2}};
        for (int t = 0; t < 3; t++) {
            for (int what = 0; what < 3; what++) {
                Check.same("cycle " + t + ", " + what, due[t][what], bench.run(t, what));
            }
        }
        AssertionBench most = Text.bench("next[9] next[2] a");
        most.search(0, 12);
        Check.same("the twelfth cycle", 0, most.run(11, 1));
        AssertionBench five = Text.bench("0");
        five.design(1, 5);
        for (int k = 0; k < 5; k++) {
            five.latch(k, 0, true);
        }
        five.search(0, 1);
        Check.same("five latches", 31, five.run(0, 2));
    }

    private static void noneFound() {
        AssertionBench bench = new AssertionBench();
        for (int t = -1; t <= 1; t++) {
            for (int what = -1; what <= 3; what++) {
                int cycle = t;
                int of = what;
                Check.fails("run " + t + " " + what, STATE, () -> bench.run(cycle, of));
            }
        }
        bench.search(0, 1);
        Check.fails("nor by a search that finds none", STATE, () -> bench.run(0, 0));
    }

    private static void noSuchCycle() {
        AssertionBench bench = Text.bench("next a");
        bench.search(0, 4);
        for (int t : new int[] {-1, 2, 3, Integer.MAX_VALUE, Integer.MIN_VALUE}) {
            Check.fails("cycle " + t, INDEX, () -> bench.run(t, 0));
        }
        Check.same("the last", 0, bench.run(1, 0));
        Text.read(bench, 0, "a");
        bench.search(0, 4);
        Check.fails("one of a longer run ahead", INDEX, () -> bench.run(1, 0));
    }

    private static void anotherWhat() {
        AssertionBench bench = found();
        for (int what : new int[] {-1, 3, Integer.MAX_VALUE, Integer.MIN_VALUE}) {
            Check.fails("what " + what, ARGUMENT, () -> bench.run(0, what));
        }
        Check.same("the last", 0, bench.run(0, 2));
    }

    private static void differ() {
        AssertionBench bench = Text.bench("next a", "next next a");
        Check.same("two letters", 2, bench.differ(1, 4));
        Check.same("not with one", 0, bench.differ(1, 1));
        Check.fails("there is no witness then", STATE, () -> bench.witness(0));
        Check.same("again", 2, bench.differ(3, 2));
        Check.same("there is one", 0, bench.witness(1));
        Check.same("the word is left alone", "0 0 0", State.word(bench));
        Check.fails("no run is found", STATE, () -> bench.run(0, 0));
    }

    private static void differWrong() {
        AssertionBench bench = Text.bench("{a[*6]}|->a", "1");
        int[][] wrong = {{0, 1}, {4, 1}, {-1, 1}, {Integer.MAX_VALUE, 1}, {Integer.MIN_VALUE, 1}, {1, 0}, {1, -1}, {1, 13},
            {2, 7}, {3, 5}, {1, Integer.MIN_VALUE}, {3, Integer.MAX_VALUE}};
        for (int[] w : wrong) {
            Check.fails("both small: " + w[0] + " " + w[1], ARGUMENT, () -> bench.differ(w[0], w[1]));
        }
        Check.same("1 times 12", 0, bench.differ(1, 12));
        Check.same("2 times 6", 0, bench.differ(2, 6));
        Check.same("3 times 4", 0, bench.differ(3, 4));
        for (int great = 0; great < 2; great++) {
            AssertionBench one = Text.bench(great == 0 ? "{a[*7]}|->a" : "1", great == 1 ? "{a[*7]}|->a" : "1");
            for (int[] w : new int[][] {{1, 10}, {1, 12}, {2, 5}, {2, 6}, {3, 4}}) {
                Check.fails("one is not small: " + w[0] + " " + w[1], ARGUMENT, () -> one.differ(w[0], w[1]));
            }
            Check.same("1 times 9", 0, one.differ(1, 9));
            Check.same("2 times 4", 0, one.differ(2, 4));
            Check.same("3 times 3", 0, one.differ(3, 3));
        }
    }

    private static void differTooMany() {
        AssertionBench bench = found();
        for (int n = 2; n < 5; n++) {
            Check.same("look " + n, 1, bench.differ(1, 1));
        }
        Check.fails("a sixth", UNSUPPORTED, () -> bench.differ(1, 1));
        Check.same("the witness stays", 0, bench.witness(0));
    }

    private static void witness() {
        AssertionBench bench = Text.bench("never {c;b;a}", "1");
        Check.same("three letters", 3, bench.differ(3, 4));
        int[] due = {4, 2, 1};
        for (int t = 0; t < 3; t++) {
            Check.same("letter " + t, due[t], bench.witness(t));
        }
        AssertionBench most = Text.bench("next[9] next[2] !a", "1");
        Check.same("twelve letters", 12, most.differ(1, 12));
        Check.same("the twelfth", 1, most.witness(11));
        Check.same("the one ahead", 0, most.witness(10));
    }

    private static void noWitness() {
        AssertionBench bench = new AssertionBench();
        for (int t : new int[] {-1, 0, 1, Integer.MAX_VALUE}) {
            Check.fails("letter " + t, STATE, () -> bench.witness(t));
        }
        bench.differ(1, 1);
        Check.fails("nor by a look that finds none", STATE, () -> bench.witness(0));
    }

    private static void noSuchLetter() {
        AssertionBench bench = Text.bench("next a");
        bench.differ(1, 4);
        for (int t : new int[] {-1, 2, 3, Integer.MAX_VALUE, Integer.MIN_VALUE}) {
            Check.fails("letter " + t, INDEX, () -> bench.witness(t));
        }
        Check.same("the last", 0, bench.witness(1));
        Text.read(bench, 0, "a");
        bench.differ(1, 4);
        Check.fails("one of a longer witness ahead", INDEX, () -> bench.witness(1));
    }
}
