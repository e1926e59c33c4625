/** Promise 4: the faults of texts, against an Earley recogniser, and one by one. */
public final class FaultTest {
    private static final String[] PIECES = {
        "a", "b", "f", "g", "0", "1", "2", "!", "&", "|", ";", ":", "||", "&&", "{", "}", "(", ")", "->", "|->",
        "|=>", "[*]", "[+]", "[*2]", "[*9]", "[*1..3]", "[*3..1]", "[->1]", "[->0]", "[=0]", "[=9]", "[2]", "[0]",
        "[", "[*", "[*12]", "[* 2]", "-", "=", "always", "never", "next", "until", "before", "and", "andd", " ",
        "  ", "A", "~", "[->", "[-1]", "[=]", "[*2..]",
    };

    public static void main(String[] args) {
        told();
        nested();
        great();
        longest();
        AssertionBench bench = new AssertionBench();
        for (int seed = 0; seed < 6000; seed++) {
            Maker maker = new Maker(seed, 1 + seed % 6);
            String text = maker.propertyUpTo(3, seed % 4 == 0 ? 2000 : 12, 240).text();
            look(bench, text);
            look(bench, changed(maker, text));
            look(bench, changed(maker, changed(maker, text)));
            look(bench, text.substring(0, maker.below(text.length())));
            look(bench, soup(maker));
        }
        Check.done("FaultTest");
    }

    private static void look(AssertionBench bench, String text) {
        Check.same("[" + text + "]", FaultModel.fault(text), Text.read(bench, 0, text));
    }

    private static void due(int fault, String text) {
        AssertionBench bench = new AssertionBench();
        Check.same("[" + text + "]", fault, Text.read(bench, 1, text));
        Check.same("the model's fault of [" + text + "]", fault, FaultModel.fault(text));
    }

    private static String changed(Maker maker, String text) {
        int at = maker.below(text.length() + 1);
        int out = Math.min(text.length(), at + maker.below(3));
        String in = maker.below(4) == 0 ? "" : PIECES[maker.below(PIECES.length)];
        return text.substring(0, at) + in + text.substring(out);
    }

    private static String soup(Maker maker) {
        StringBuilder out = new StringBuilder();
        for (int k = 1 + maker.below(12); k > 0; k--) {
            out.append(PIECES[maker.below(PIECES.length)]);
        }
        return out.toString();
    }

    private static void told() {
        due(-1, "a");
        due(-1, " a ");
        due(0, "");
        due(3, "   ");
        due(2, "a b");
        due(0, "ab");
        due(0, "g");
        due(0, "alwaysa");
        due(-1, "always a");
        due(-1, "always!a");
        due(1, "!!a");
        due(2, "(a)");
        due(1, "(");
        due(2, "a|");
        due(1, "a||b");
        due(-1, "{a||b}");
        due(-1, "{a|b[*]}");
        due(5, "{a[*][*]}");
        due(2, "{a[*3..2]}");
        due(-1, "{a[*2..2]}");
        due(2, "{a[->0]}");
        due(-1, "{a[=0]}");
        due(4, "{{a}[=1]}");
        due(4, "{{a}[->1]}");
        due(-1, "{{a}[*0]}");
        due(1, "{}");
        due(0, "[*]");
        due(1, "a[*]");
        due(2, "{a[*10]}");
        due(2, "{a[ *]}");
        due(9, "never {a}|->b");
        due(6, "never a");
        due(-1, "next [0] a");
        due(-1, "next[9]a");
        due(5, "next [10] a");
        due(7, "always [1] a");
        due(-1, "(a before b)");
        due(10, "(always a before b)");
        due(5, "({a} before b)");
        due(6, "(a->b before c)");
        due(-1, "(a->b until c)");
        due(-1, "(always (a and {b}) until c)");
        due(10, "(a before {b})");
        due(9, "(a until (b and c))");
        due(-1, "a->b->c");
        due(-1, "{a}|->{b}|=>c->d");
        due(3, "a->");
        due(1, "a{b}");
        due(1, "a#");
        due(1, "a-b");
    }

    private static void nested() {
        String most = "(".repeat(19) + "{a}" + " and b)".repeat(19);
        due(-1, most);
        due(20, "(".repeat(21) + "a" + " and b)".repeat(21));
        due(-1, "(".repeat(20) + "a" + " and b)".repeat(20));
        due(20, "(".repeat(20) + "{a}" + " and b)".repeat(20));
        due(-1, "{".repeat(20) + "a" + "}".repeat(20));
        due(20, "{".repeat(21) + "a" + "}".repeat(21));
        due(17, "({a}and({b}and c)");
    }

    /** As many tokens, parts and sequences as four hundred signs can have. */
    private static void longest() {
        due(-1, "!a" + "&a".repeat(199));
        due(400, "a|".repeat(200));
        due(-1, "1->".repeat(133) + "1");
        due(-1, "{a}|->".repeat(66) + "{a}");
        due(-1, "{a[=9]&&b}|->".repeat(30) + "{a}");
        due(398, "{a}|=>".repeat(66) + "{a");
        due(-1, "(1and".repeat(20) + "1" + ")".repeat(20));
    }

    private static void great() {
        // Weights above 1000 count as 1000: however many are multiplied, it stays too great.
        for (int n = 1; n <= 55; n++) {
            due(0, "{a[*9]" + "&&b[*9]".repeat(n) + "}");
            due(0, "{a[*9]" + "&&b[*7]".repeat(n) + "}");
        }
        due(-1, "{a[=9]&&b}");
        due(0, "{a[=9]&&b;c}");
        due(0, "{a[=9]&&b;c}}}");
        due(-1, "{{a;b;c;d;e}[*8]}");
        due(0, "{{a;b;c;d;e}[*8];a}");
        due(-1, "{{{a;b;c;d;e}[*8]}[+]}");
        due(3, "a->{{a;b;c;d;e}[*9]}$");
        due(12, "{{a;b;c;d;e}$[*9]}");
        due(0, "{{{{{a[*9]}[*9]}[*9]}[*9]}[*9]}");
        due(6, "never {{a[*9]}[*0..5]}");
        due(-1, "never {{a[*9]}[*0..4]}");
        due(-1, "{{a[*9]}[*4]}");
        due(-1, "{{a[*9]}[*4] || b[*0] || c[*3]}");
        due(0, "{{a[*9]}[*4] || b[*0] || c[*4]}");
        due(0, "{a[->9] ; b[->9] ; c[->3]}");
        due(-1, "{a[->9] ; b[->9] ; c[->2]}");
        due(0, "{a[->9] ; b[->9] ; c[=2]}");
        due(-1, "{a&&b&&c&&d}");
        due(0, "{a&&b&&c&&d&&e}");
        due(-1, "{a&&b&&c || a&&b&&c || a&&b&&c || a&&b&&c}");
        due(0, "{a&&b&&c || a&&b&&c || a&&b&&c || a&&b&&c : d}");
    }
}
