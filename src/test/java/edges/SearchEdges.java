/** Terms 5: searching, and how many searches and looks there may be. */
final class SearchEdges {
    private SearchEdges() {
    }

    static void run() {
        Edge.in("Term 5");
        Edge.says("SEARCHING up to k cycles: the least number of cycles for which there are inputs such that the word of "
                + "their letters fails the property;", SearchEdges::leastCycles);
        Edge.says("of the inputs those that are first: the least number in cycle 0, of several the least in cycle 1, and so "
                + "on.", SearchEdges::firstInputs);
        Edge.says("Inputs times k must be 9 at most, 12 for a SMALL property (6);", SearchEdges::products);
        Edge.says("there are at most 5 searches and looks for differences together, ever", SearchEdges::fiveEver);
        Edge.says("(those that throw don't count;", SearchEdges::thrownDontCount);
        Edge.says("products are meant as whole numbers).", SearchEdges::wholeNumbers);
    }

    private static void leastCycles() {
        AssertionBench bench = Text.bench("always !c");
        Text.readDesign(bench, "input x;latch p 0;latch q 0;next p=x;next q=p&x;signal c=q&x;");
        Check.same("not with two", 0, bench.search(0, 2));
        Check.same("with three", 3, bench.search(0, 3));
        Check.same("and no more if more may be", 3, bench.search(0, 12));
        for (int t = 0; t < 3; t++) {
            Check.same("cycle " + t, 1, bench.run(t, 0));
        }
        AssertionBench first = Text.bench("0", "1");
        Check.same("with the first letter", 1, first.search(0, 12));
        Check.same("with none", 0, first.search(1, 12));
        Check.same("in one cycle", 1, first.search(0, 1));
        AssertionBench last = Text.bench("next[9] next[2] a");
        Check.same("not with eleven", 0, last.search(0, 11));
        Check.same("with the twelfth", 12, last.search(0, 12));
    }

    /** The inputs of the run that is found, one sign a cycle. */
    private static String inputs(String property, String design, int k) {
        AssertionBench bench = Text.bench(property);
        Check.same(design, -1, Text.readDesign(bench, design));
        int found = bench.search(0, k);
        StringBuilder out = new StringBuilder();
        for (int t = 0; t < found; t++) {
            out.append(bench.run(t, 0));
        }
        return out.toString();
    }

    private static void firstInputs() {
        String two = "input x;input y;signal a=x;signal b=y;";
        String three = "input x;input y;input z;signal a=x;signal b=y;signal c=z;";
        Check.same("none are least", "0", inputs("a", two, 1));
        Check.same("bit 1", "2", inputs("!b", two, 1));
        Check.same("both", "3", inputs("!a|!b", two, 1));
        Check.same("bit 2", "4", inputs("!c", three, 1));
        Check.same("all", "7", inputs("!a|!b|!c", three, 1));
        Check.same("the least in cycle 0, though 1 could be", "01", inputs("always !a->next !a", two, 2));
        Check.same("cycle 0 first, then cycle 1", "21", inputs("never {b;a}", two, 2));
        Check.same("none where nothing is asked", "0002", inputs("next[3] !b", two, 4));
        // A longer run that would be first is none.
        Check.same("the shortest, though its inputs are greater", "3", inputs("(!a|!b and next[2] 0)", two, 3));
    }

    private static void products() {
        String large = "{a[*7]}|->1";
        String small = "{a[*6]}|->1";
        for (int inputs = 1; inputs <= 3; inputs++) {
            for (int k = 1; k <= 14; k++) {
                look(large, inputs, k, inputs * k <= 9);
                look(small, inputs, k, inputs * k <= 12);
                look("1", inputs, k, inputs * k <= 12);
            }
        }
    }

    private static void look(String property, int inputs, int k, boolean may) {
        AssertionBench bench = Text.bench(property);
        bench.design(inputs, 0);
        String due = may ? "0" : "IllegalArgumentException";
        Check.same(property + " search " + inputs + " times " + k, due, Check.outcome(() -> bench.search(0, k)));
        Check.same(property + " differ " + inputs + " times " + k, due, Check.outcome(() -> bench.differ(inputs, k)));
    }

    private static void fiveEver() {
        for (int searches = 0; searches <= 5; searches++) {
            AssertionBench bench = Text.bench("a", "b");
            for (int n = 0; n < 5; n++) {
                Check.same("look " + n, 1, n < searches ? bench.search(0, 1) : bench.differ(1, 1));
            }
            Check.fails("a sixth search", UnsupportedOperationException.class, () -> bench.search(0, 1));
            Check.fails("a sixth look", UnsupportedOperationException.class, () -> bench.differ(1, 1));
            // Nothing makes room for more.
            Text.read(bench, 0, "b");
            Text.readDesign(bench, "input x;");
            bench.design(1, 0);
            bench.clear();
            Check.fails("still", UnsupportedOperationException.class, () -> bench.search(1, 1));
            Check.fails("still", UnsupportedOperationException.class, () -> bench.differ(1, 1));
        }
        // Those that find none count as well.
        AssertionBench bench = new AssertionBench();
        for (int n = 0; n < 5; n++) {
            Check.same("none", 0, n % 2 == 0 ? bench.search(0, 1) : bench.differ(1, 1));
        }
        Check.fails("a sixth", UnsupportedOperationException.class, () -> bench.search(0, 1));
    }

    private static void thrownDontCount() {
        AssertionBench bench = Text.bench("a");
        for (int n = 0; n < 20; n++) {
            Check.fails("no such property", IndexOutOfBoundsException.class, () -> bench.search(2, 1));
            Check.fails("k", IllegalArgumentException.class, () -> bench.search(0, 0));
            Check.fails("inputs times k", IllegalArgumentException.class, () -> bench.search(0, 13));
            Check.fails("n", IllegalArgumentException.class, () -> bench.differ(0, 1));
            Check.fails("k", IllegalArgumentException.class, () -> bench.differ(1, 0));
            Check.fails("n times k", IllegalArgumentException.class, () -> bench.differ(1, 13));
        }
        for (int n = 0; n < 5; n++) {
            Check.same("look " + n, 1, bench.search(0, 1));
        }
        Check.fails("a sixth", UnsupportedOperationException.class, () -> bench.search(0, 1));
    }

    private static void wholeNumbers() {
        AssertionBench bench = Text.bench("a");
        // As numbers of 32 bits these would be below nothing, or 2 and 5.
        bench.design(2, 0);
        Check.fails("2 times 2 to the 31", IllegalArgumentException.class, () -> bench.search(0, Integer.MIN_VALUE));
        Check.fails("2 times 2 to the 30, and more", IllegalArgumentException.class, () -> bench.search(0, (1 << 30) + 1));
        Check.fails("and 2", IllegalArgumentException.class, () -> bench.search(0, Integer.MAX_VALUE));
        Check.fails("differ", IllegalArgumentException.class, () -> bench.differ(2, (1 << 30) + 1));
        Check.fails("differ", IllegalArgumentException.class, () -> bench.differ(2, Integer.MAX_VALUE));
        bench.design(3, 0);
        Check.fails("3 times 1431655766", IllegalArgumentException.class, () -> bench.search(0, 1431655766));
        Check.fails("3 times 715827883", IllegalArgumentException.class, () -> bench.search(0, 715827883));
        Check.fails("differ", IllegalArgumentException.class, () -> bench.differ(3, 1431655766));
        Check.fails("differ", IllegalArgumentException.class, () -> bench.differ(3, 1431655767));
        Check.fails("differ", IllegalArgumentException.class, () -> bench.differ(1, Integer.MAX_VALUE));
    }
}
