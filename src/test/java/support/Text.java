/** Puts texts and words into a bench, and gets what it tells by many calls out of it as one text. */
final class Text {
    private Text() {
    }

    static void put(AssertionBench bench, String text) {
        for (int at = 0; at < text.length(); at += 4) {
            int signs = 0;
            for (int k = 0; k < 4 && at + k < text.length(); k++) {
                signs |= text.charAt(at + k) << 8 * k;
            }
            bench.put(signs);
        }
    }

    static int read(AssertionBench bench, int p, String text) {
        put(bench, text);
        return bench.read(p);
    }

    static int readDesign(AssertionBench bench, String text) {
        put(bench, text);
        return bench.readDesign();
    }

    static int readNumbers(AssertionBench bench, String text) {
        put(bench, text);
        return bench.readNumbers();
    }

    static String numbers(AssertionBench bench) {
        StringBuilder out = new StringBuilder();
        for (int k = 0; bench.number(k) != AssertionBench.NONE; k++) {
            out.append((char) bench.number(k));
        }
        return out.toString();
    }

    static String flops(AssertionBench bench, int p) {
        StringBuilder out = new StringBuilder();
        for (int f = 0; f < bench.flops(p); f++) {
            out.append(bench.flop(p, f) ? '1' : '0');
        }
        return out.toString();
    }

    /** A bench with property 0 read, which must be without a fault. */
    static AssertionBench bench(String text) {
        return bench(text, "1");
    }

    static AssertionBench bench(String zero, String one) {
        AssertionBench bench = new AssertionBench();
        Check.same("read " + zero, AssertionBench.NONE, read(bench, 0, zero));
        Check.same("read " + one, AssertionBench.NONE, read(bench, 1, one));
        return bench;
    }

    /** Letters by the signals that they have, a blank between two, and - for one that has none. */
    static int[] word(String letters) {
        if (letters.isEmpty()) {
            return new int[0];
        }
        String[] told = letters.split(" ");
        int[] word = new int[told.length];
        for (int k = 0; k < told.length; k++) {
            for (char signal : told[k].toCharArray()) {
                word[k] |= signal == '-' ? 0 : 1 << signal - 'a';
            }
        }
        return word;
    }

    /** What each letter answers, one behind the other. */
    static String letters(AssertionBench bench, int... letters) {
        StringBuilder out = new StringBuilder();
        for (int v : letters) {
            out.append(bench.letter(v));
        }
        return out.toString();
    }

    static String letters(AssertionBench bench, String word) {
        return letters(bench, word(word));
    }
}
