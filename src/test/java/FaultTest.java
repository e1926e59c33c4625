/** Promise 4: the faults of texts, against an Earley recogniser and a plain reader, and one by one. */
public final class FaultTest {
    private static final String[] PIECES = {
        "a", "b", "f", "g", "0", "1", "2", "!", "&", "|", ";", ":", "||", "&&", "{", "}", "(", ")", "->", "|->",
        "|=>", "[*]", "[+]", "[*2]", "[*9]", "[*1..3]", "[*3..1]", "[->1]", "[->0]", "[=0]", "[=9]", "[2]", "[0]",
        "[", "[*", "[*12]", "[* 2]", "-", "=", "always", "never", "next", "until", "before", "and", "andd", " ",
        "  ", "A", "~", "[->", "[-1]", "[=]", "[*2..]",
    };

    public static void main(String[] args) {
        told();
        nested();
        great();
        longest();
        AssertionBench bench = new AssertionBench();
        for (int seed = 0; seed < 6000; seed++) {
            Maker maker = new Maker(seed, 1 + seed % 6);
            String text = maker.propertyUpTo(3, seed % 4 == 0 ? 2000 : 12, 240).text();
            look(bench, text);
            look(bench, changed(maker, text));
            look(bench, changed(maker, changed(maker, text)));
            look(bench, text.substring(0, maker.below(text.length())));
            look(bench, soup(maker));
        }
        Check.done("FaultTest");
    }

    private static void look(AssertionBench bench, String text) {
        int due = FaultModel.fault(text);
        Check.same("[" + text + "]", due, Text.read(bench, 0, text));
        Check.same("the other model's fault of [" + text + "]", due, readFault(text));
    }

    private static int readFault(String text) {
        try {
            TextModel.read(text);
            return AssertionBench.NONE;
        } catch (DesignModel.Fault fault) {
            return fault.place;
        }
    }

    static String changed(Maker maker, String text) {
        int at = maker.below(text.length() + 1);
        int out = Math.min(text.length(), at + maker.below(3));
        String in = maker.below(4) == 0 ? "" : PIECES[maker.below(PIECES.length)];
        return text.substring(0, at) + in + text.substring(out);
    }

    private static String soup(Maker maker) {
        StringBuilder out = new StringBuilder();
        for (int k = 1 + maker.below(12); k > 0; k--) {
            out.append(PIECES[maker.below(PIECES.length)]);
        }
        return out.toString();
    }

    private static void told() {
        Due.fault(-1, "a");
        Due.fault(-1, " a ");
        Due.fault(0, "");
        Due.fault(3, "   ");
        Due.fault(2, "a b");
        Due.fault(0, "ab");
        Due.fault(0, "g");
        Due.fault(0, "alwaysa");
        Due.fault(-1, "always a");
        Due.fault(-1, "always!a");
        Due.fault(1, "!!a");
        Due.fault(2, "(a)");
        Due.fault(1, "(");
        Due.fault(2, "a|");
        Due.fault(1, "a||b");
        Due.fault(-1, "{a||b}");
        Due.fault(-1, "{a|b[*]}");
        Due.fault(5, "{a[*][*]}");
        Due.fault(2, "{a[*3..2]}");
        Due.fault(-1, "{a[*2..2]}");
        Due.fault(2, "{a[->0]}");
        Due.fault(-1, "{a[=0]}");
        Due.fault(4, "{{a}[=1]}");
        Due.fault(4, "{{a}[->1]}");
        Due.fault(-1, "{{a}[*0]}");
        Due.fault(1, "{}");
        Due.fault(0, "[*]");
        Due.fault(1, "a[*]");
        Due.fault(2, "{a[*10]}");
        Due.fault(2, "{a[ *]}");
        Due.fault(9, "never {a}|->b");
        Due.fault(6, "never a");
        Due.fault(-1, "next [0] a");
        Due.fault(-1, "next[9]a");
        Due.fault(5, "next [10] a");
        Due.fault(7, "always [1] a");
        Due.fault(-1, "(a before b)");
        Due.fault(10, "(always a before b)");
        Due.fault(5, "({a} before b)");
        Due.fault(6, "(a->b before c)");
        Due.fault(-1, "(a->b until c)");
        Due.fault(-1, "(always (a and {b}) until c)");
        Due.fault(10, "(a before {b})");
        Due.fault(9, "(a until (b and c))");
        Due.fault(-1, "a->b->c");
        Due.fault(-1, "{a}|->{b}|=>c->d");
        Due.fault(3, "a->");
        Due.fault(1, "a{b}");
        Due.fault(1, "a#");
        Due.fault(1, "a-b");
    }

    private static void nested() {
        String most = "(".repeat(19) + "{a}" + " and b)".repeat(19);
        Due.fault(-1, most);
        Due.fault(20, "(".repeat(21) + "a" + " and b)".repeat(21));
        Due.fault(-1, "(".repeat(20) + "a" + " and b)".repeat(20));
        Due.fault(20, "(".repeat(20) + "{a}" + " and b)".repeat(20));
        Due.fault(-1, "{".repeat(20) + "a" + "}".repeat(20));
        Due.fault(20, "{".repeat(21) + "a" + "}".repeat(21));
        Due.fault(17, "({a}and({b}and c)");
    }

    /** As many tokens, parts and sequences as four hundred signs can have. */
    private static void longest() {
        Due.fault(-1, "!a" + "&a".repeat(199));
        Due.fault(400, "a|".repeat(200));
        Due.fault(-1, "1->".repeat(133) + "1");
        Due.fault(-1, "{a}|->".repeat(66) + "{a}");
        Due.fault(-1, "{a[=9]&&b}|->".repeat(30) + "{a}");
        Due.fault(398, "{a}|=>".repeat(66) + "{a");
        Due.fault(-1, "(1and".repeat(20) + "1" + ")".repeat(20));
    }

    private static void great() {
        // Weights above 1000 count as 1000: however many are multiplied, it stays too great.
        for (int n = 1; n <= 55; n++) {
            Due.fault(0, "{a[*9]" + "&&b[*9]".repeat(n) + "}");
            Due.fault(0, "{a[*9]" + "&&b[*7]".repeat(n) + "}");
        }
        Due.fault(-1, "{a[=9]&&b}");
        Due.fault(0, "{a[=9]&&b;c}");
        Due.fault(0, "{a[=9]&&b;c}}}");
        Due.fault(-1, "{{a;b;c;d;e}[*8]}");
        Due.fault(0, "{{a;b;c;d;e}[*8];a}");
        Due.fault(-1, "{{{a;b;c;d;e}[*8]}[+]}");
        Due.fault(3, "a->{{a;b;c;d;e}[*9]}$");
        Due.fault(12, "{{a;b;c;d;e}$[*9]}");
        Due.fault(0, "{{{{{a[*9]}[*9]}[*9]}[*9]}[*9]}");
        Due.fault(6, "never {{a[*9]}[*0..5]}");
        Due.fault(-1, "never {{a[*9]}[*0..4]}");
        Due.fault(-1, "{{a[*9]}[*4]}");
        Due.fault(-1, "{{a[*9]}[*4] || b[*0] || c[*3]}");
        Due.fault(0, "{{a[*9]}[*4] || b[*0] || c[*4]}");
        Due.fault(0, "{a[->9] ; b[->9] ; c[->3]}");
        Due.fault(-1, "{a[->9] ; b[->9] ; c[->2]}");
        Due.fault(0, "{a[->9] ; b[->9] ; c[=2]}");
        Due.fault(-1, "{a&&b&&c&&d}");
        Due.fault(0, "{a&&b&&c&&d&&e}");
        Due.fault(-1, "{a&&b&&c || a&&b&&c || a&&b&&c || a&&b&&c}");
        Due.fault(0, "{a&&b&&c || a&&b&&c || a&&b&&c || a&&b&&c : d}");
    }
}
