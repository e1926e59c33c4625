/** What is due of a text, each on a new object. */
final class Due {
    private Due() {
    }

    /** The fault of a property's text, which the model must find too. */
    static void fault(int place, String text) {
        AssertionBench bench = new AssertionBench();
        Check.same("[" + text + "]", place, Text.read(bench, 1, text));
        Check.same("the model's fault of [" + text + "]", place, FaultModel.fault(text));
    }

    static void reads(String... texts) {
        for (String text : texts) {
            fault(AssertionBench.NONE, text);
        }
    }

    /** What each letter answers, one behind the other. */
    static void letters(String answers, String property, int... word) {
        AssertionBench bench = Text.bench(property);
        Check.same(property, answers, Text.letters(bench, word));
    }

    static void letters(String answers, String property, String word) {
        letters(answers, property, Text.word(word));
    }

    /** Whether the whole word is a row, and whether it goes on. */
    static void row(boolean of, boolean goes, String sequence, int... word) {
        AssertionBench bench = Text.bench("1", "{" + sequence + "}");
        Text.letters(bench, word);
        String what = sequence + " : " + java.util.Arrays.toString(word);
        Check.same(what + " row", of, bench.row(1, 0, word.length));
        Check.same(what + " goes on", goes, bench.goesOn(1, 0, word.length));
    }

    /** Words that are rows. */
    static void rows(String sequence, String... words) {
        for (String word : words) {
            row(true, true, sequence, Text.word(word));
        }
    }

    /** Words that are none, but go on. */
    static void beginnings(String sequence, String... words) {
        for (String word : words) {
            row(false, true, sequence, Text.word(word));
        }
    }

    /** Words that neither are rows nor go on. */
    static void dead(String sequence, String... words) {
        for (String word : words) {
            row(false, false, sequence, Text.word(word));
        }
    }

    /** The kinds of all classes, one sign each. */
    static void kinds(String kinds, String sequence) {
        AssertionBench bench = Text.bench("{" + sequence + "}");
        StringBuilder out = new StringBuilder();
        for (int c = 0; c < bench.classes(0); c++) {
            out.append(bench.kind(0, c));
        }
        Check.same(sequence, kinds, out.toString());
    }

    /** All flip-flops behind each letter, from none on. */
    static void flops(String property, int[] word, String... flops) {
        AssertionBench bench = Text.bench("1", property);
        Check.same(property + " has as many answers as letters, and one", word.length + 1, flops.length);
        for (int k = 0; k <= word.length && k < flops.length; k++) {
            Check.same(property + " behind " + k + " letters", flops[k], Text.flops(bench, 1));
            if (k < word.length) {
                bench.letter(word[k]);
            }
        }
    }

    static void flops(String property, String word, String... flops) {
        flops(property, Text.word(word), flops);
    }

    /** A design text as numbers, which are read again as that design. */
    static void numbers(String numbers, String text) {
        AssertionBench bench = new AssertionBench();
        Check.same("[" + text + "]", AssertionBench.NONE, Text.readDesign(bench, text));
        Check.same("[" + text + "]", numbers, Text.numbers(bench));
        Check.same("the text is empty then", 0, bench.put(0));
        if (numbers.length() <= 400) {
            Check.same("read again as numbers", AssertionBench.NONE, Text.readNumbers(bench, numbers));
            Check.same("[" + text + "]", numbers, Text.numbers(bench));
        }
    }

    /** A design text's fault, or that it has none. */
    static void designFaultOrNone(int place, String text) {
        AssertionBench bench = new AssertionBench();
        Check.same("[" + text + "]", place, Text.readDesign(bench, text));
    }

    static void designFault(int place, String text) {
        AssertionBench bench = designed();
        String before = Text.numbers(bench);
        Check.same("[" + text + "]", place, Text.readDesign(bench, text));
        Check.same("[" + text + "] changes no design", before, Text.numbers(bench));
        Check.same("the text is empty then", 0, bench.put(0));
    }

    static void numbersFault(int place, String text) {
        AssertionBench bench = designed();
        String before = Text.numbers(bench);
        Check.same("[" + text + "]", place, Text.readNumbers(bench, text));
        Check.same("[" + text + "] changes no design", before, Text.numbers(bench));
        Check.same("the text is empty then", 0, bench.put(0));
    }

    private static AssertionBench designed() {
        AssertionBench bench = new AssertionBench();
        Text.readDesign(bench, "input x;input y;latch q 1;signal c=q&y;");
        return bench;
    }
}
