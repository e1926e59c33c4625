/** All that calls can tell of an object, as one text: what a call that changes nothing must leave as it is. */
final class State {
    private State() {
    }

    static String of(AssertionBench bench) {
        StringBuilder out = new StringBuilder("signs " + bench.put(0));
        out.append(", word ").append(word(bench));
        out.append(", properties ").append(property(bench, 0)).append(" ").append(property(bench, 1));
        out.append(", design ").append(Text.numbers(bench));
        for (int what = 0; what <= 8; what++) {
            out.append(" ").append(bench.has(what));
        }
        return out.append(", run ").append(run(bench)).append(", witness ").append(witness(bench)).toString();
    }

    static String word(AssertionBench bench) {
        return bench.word(0) + " " + bench.word(1) + " " + bench.word(2);
    }

    static String run(AssertionBench bench) {
        StringBuilder out = new StringBuilder();
        for (int t = 0; t < 12; t++) {
            for (int what = 0; what < 3; what++) {
                int cycle = t;
                int of = what;
                out.append(Check.outcome(() -> bench.run(cycle, of))).append(' ');
            }
        }
        return out.toString();
    }

    static String witness(AssertionBench bench) {
        StringBuilder out = new StringBuilder();
        for (int t = 0; t < 12; t++) {
            int at = t;
            out.append(Check.outcome(() -> bench.witness(at))).append(' ');
        }
        return out.toString();
    }

    /** The rows, classes and flip-flops of a property behind the word so far. */
    static String property(AssertionBench bench, int p) {
        StringBuilder out = new StringBuilder();
        int length = bench.word(0);
        for (int i = 0; i <= length; i++) {
            int from = i;
            out.append(Check.outcome(() -> bench.row(p, from, length))).append(' ');
            out.append(Check.outcome(() -> bench.goesOn(p, from, length))).append(' ');
            out.append(Check.outcome(() -> bench.classOf(p, from, length))).append(' ');
        }
        out.append(Check.outcome(() -> bench.classes(p))).append(' ');
        return out.append(Check.outcome(() -> Text.flops(bench, p))).toString();
    }
}
