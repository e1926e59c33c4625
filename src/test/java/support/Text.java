/** Puts texts into a bench, four signs at a time, and gets its design as numbers out of it. */
final class Text {
    private Text() {
    }

    static void put(AssertionBench bench, String text) {
        for (int at = 0; at < text.length(); at += 4) {
            int signs = 0;
            for (int k = 0; k < 4 && at + k < text.length(); k++) {
                signs |= text.charAt(at + k) << 8 * k;
            }
            bench.put(signs);
        }
    }

    static int read(AssertionBench bench, int p, String text) {
        put(bench, text);
        return bench.read(p);
    }

    static int readDesign(AssertionBench bench, String text) {
        put(bench, text);
        return bench.readDesign();
    }

    static int readNumbers(AssertionBench bench, String text) {
        put(bench, text);
        return bench.readNumbers();
    }

    static String numbers(AssertionBench bench) {
        StringBuilder out = new StringBuilder();
        for (int k = 0; bench.number(k) != AssertionBench.NONE; k++) {
            out.append((char) bench.number(k));
        }
        return out.toString();
    }

    /** A bench with property 0 read, which must be without a fault. */
    static AssertionBench bench(String text) {
        return bench(text, "1");
    }

    static AssertionBench bench(String zero, String one) {
        AssertionBench bench = new AssertionBench();
        Check.same("read " + zero, AssertionBench.NONE, read(bench, 0, zero));
        Check.same("read " + one, AssertionBench.NONE, read(bench, 1, one));
        return bench;
    }

    /** What each letter answers, one behind the other. */
    static String letters(AssertionBench bench, int... letters) {
        StringBuilder out = new StringBuilder();
        for (int v : letters) {
            out.append(bench.letter(v));
        }
        return out.toString();
    }
}
