/** Terms 2: the fault of a text, and what makes a sequence too great. */
final class FaultEdges {
    /** Sequences of the greatest weight that may be, and of one more. */
    private static final String FORTY = "{a[*9];a[*9];a[*9];a[*9];a[*4]}";
    private static final String TOO_GREAT = "{a[*9];a[*9];a[*9];a[*9];a[*5]}";

    private FaultEdges() {
    }

    static void run() {
        Edge.in("Term 2");
        Edge.says("The FAULT of a text is the first place that is found, going over it", FaultEdges::firstFound);
        Edge.says("of a token (or sign that begins none, a [ of none of those told, or word that is none) with which",
                FaultEdges::wrongToken);
        Edge.says("by the grammar alone, no text could go on", FaultEdges::grammarAlone);
        Edge.says("the end being one;", FaultEdges::theEnd);
        Edge.says("of the [ of [*n..m] with m below n, or of [->0]", FaultEdges::counts);
        Edge.says("of a { or ( at which more than twenty of these would be open;", FaultEdges::twentyOpen);
        Edge.says("of the { of a sequence of a property (not one within another) that is TOO GREAT",
                FaultEdges::tooGreat);
        Edge.says("as soon as its } is read (ahead of what stands behind).", FaultEdges::asSoonAsRead);
        Edge.says("The end's place is the number of all signs.", FaultEdges::endsPlace);
        Edge.says("A sequence is too great if its WEIGHT is above 40", FaultEdges::aboveForty);
        Edge.says("of a condition it is 1;", FaultEdges::ofCondition);
        Edge.says("with ; : or || the weights together;", FaultEdges::together);
        Edge.says("with && both weights, each and 1, multiplied;", FaultEdges::multiplied);
        Edge.says("with [*] and [+] as without;", FaultEdges::asWithout);
        Edge.says("with [*n] and [*n..m] the greatest count (1 at least) times that;", FaultEdges::greatestCount);
        Edge.says("c[->n] 2 n;", FaultEdges::arrows);
        Edge.says("c[=n] 2 n and 1;", FaultEdges::exactly);
        Edge.says("all as they stand from left to right.", FaultEdges::leftToRight);
        Edge.says("(Weights above 1000 count as 1000.)", FaultEdges::thousand);
    }

    private static void firstFound() {
        Due.fault(1, "a#$");
        Due.fault(2, "{a[*3..1]#}");
        Due.fault(2, "{a#;b[*3..1]}");
        // The { of a sequence that is too great is found with its }: what stands ahead of that is found first.
        Due.fault(0, TOO_GREAT + "#");
        Due.fault(26, "{a[*9];a[*9];a[*9];a[*9];a#[*5]}");
        Due.fault(32, "{a[*9];a[*9];a[*9];a[*9];a[*5];b[->0]}");
        Due.fault(6, "{a}|->" + TOO_GREAT + "|->" + TOO_GREAT);
    }

    private static void wrongToken() {
        for (String sign : new String[] {"#", "A", "~", "2", "=", "-", ".", "]", "+", "*", ">"}) {
            Due.fault(0, sign);
            Due.fault(1, "a" + sign);
            Due.fault(3, "{a;" + sign + "}");
            Due.fault(2, "{a" + sign + "}");
        }
        for (String bracket : new String[] {"[", "[*", "[+", "[*2", "[*2..", "[*2..3", "[-", "[->", "[->1", "[=", "[=1",
            "[1", "[]", "[* ]", "[a]", "[2..3]"}) {
            Due.fault(2, "{a" + bracket + "}");
        }
        for (String word : new String[] {"g", "ab", "alway", "alwaysx", "nexts", "input"}) {
            Due.fault(0, word);
            Due.fault(7, "always " + word);
            Due.fault(3, "{a;" + word + "}");
            Due.fault(2, "a " + word);
        }
        Due.fault(3, "{a;always}");
        Due.fault(2, "a always b");
        Due.fault(0, "&&");
    }

    private static void grammarAlone() {
        // What is too great already, or has too many open, could still go on by the grammar.
        Due.fault(12, "{{a[*9]}[*9]");
        Due.fault(14, "{{a[*9]}[*9];b");
        Due.fault(12, "{{a[*9]}[*9]#}");
        Due.fault(12, "{{a[*9]}[*9])}");
        // A token of which some other property could still come of it.
        Due.fault(3, "(a ");
        Due.fault(4, "(a|b)");
        Due.reads("(a|b until c)", "(a|b before c)", "(a|b and c)", "(a|b->c and d)");
    }

    private static void theEnd() {
        Due.fault(0, "");
        Due.fault(1, "(");
        Due.fault(1, "{");
        Due.fault(1, "!");
        Due.fault(2, "a|");
        Due.fault(2, "a&");
        Due.fault(3, "a->");
        Due.fault(2, "{a");
        Due.fault(3, "{a;");
        Due.fault(4, "{{a}");
        Due.fault(6, "{a}|->");
        Due.fault(2, "(a");
        Due.fault(8, "(a until");
        Due.fault(10, "(a until b");
        Due.fault(5, "never");
        Due.fault(7, "next[2]");
        Due.reads("a", "{a}", "next[2]a");
    }

    private static void counts() {
        for (int n = 0; n <= 9; n++) {
            for (int m = 0; m <= 9; m++) {
                Due.fault(m < n ? 2 : -1, "{a[*" + n + ".." + m + "]}");
                Due.fault(m < n ? 5 : -1, "{ {a}[*" + n + ".." + m + "]}");
            }
            Due.fault(n == 0 ? 2 : -1, "{a[->" + n + "]}");
            Due.reads("{a[=" + n + "]}", "{a[*" + n + "]}");
        }
        // Of one that may not come there anyway the place is the same.
        Due.fault(1, "a[*2..1]");
        Due.fault(4, "{{a}[->0]}");
        Due.fault(4, "next[->0]a");
    }

    private static void twentyOpen() {
        Due.reads("{".repeat(20) + "a" + "}".repeat(20));
        Due.fault(20, "{".repeat(21) + "a" + "}".repeat(21));
        Due.reads("(".repeat(20) + "a" + " and b)".repeat(20));
        Due.fault(20, "(".repeat(21) + "a" + " and b)".repeat(21));
        Due.reads("(".repeat(19) + "{a}" + " and b)".repeat(19));
        Due.fault(20, "(".repeat(20) + "{a}" + " and b)".repeat(20));
        Due.reads("(".repeat(10) + "{".repeat(10) + "a" + "}".repeat(10) + " and b)".repeat(10));
        Due.fault(20, "(".repeat(10) + "{".repeat(11) + "a" + "}".repeat(11) + " and b)".repeat(10));
        Due.fault(25, "never" + "{".repeat(21) + "a" + "}".repeat(21));
        // Those that are closed again are open no longer.
        Due.reads("({a}and".repeat(19) + "{a}" + ")".repeat(19));
        Due.fault(134, "({a}and".repeat(20) + "b" + ")".repeat(20));
        Due.reads("{" + "{a};".repeat(39) + "{a}}");
        Due.reads("(".repeat(10) + "(a and b)" + "and(a and b))".repeat(10));
    }

    private static void tooGreat() {
        Due.reads(FORTY, "never" + FORTY, FORTY + "|->a", FORTY + "|=>" + FORTY, "(a and" + FORTY + ")");
        Due.fault(0, TOO_GREAT);
        Due.fault(5, "never" + TOO_GREAT);
        Due.fault(6, "never " + TOO_GREAT);
        Due.fault(0, TOO_GREAT + "|->a");
        Due.fault(6, "{a}|->" + TOO_GREAT);
        Due.fault(FORTY.length() + 3, FORTY + "|=>" + TOO_GREAT);
        Due.fault(6, "(a and" + TOO_GREAT + ")");
        Due.fault(3, "a->" + TOO_GREAT);
        // One within another has no fault of its own: it is that of the whole one.
        Due.fault(0, "{b;" + TOO_GREAT + "}");
        Due.fault(0, "{" + TOO_GREAT + "}");
        Due.fault(3 + TOO_GREAT.length(), "{b;" + TOO_GREAT + "#}");
        Due.fault(3 + TOO_GREAT.length(), "{b;" + TOO_GREAT);
        Due.fault(0, "{b;" + FORTY + "}");
    }

    private static void asSoonAsRead() {
        for (String behind : new String[] {"", "#", "}", "|->", "|->#", "a", "[*]", " ", "|->" + TOO_GREAT, "[", "alway"}) {
            Due.fault(0, TOO_GREAT + behind);
            Due.fault(1, "(" + TOO_GREAT + behind);
        }
        Due.fault(TOO_GREAT.length() - 1, TOO_GREAT.substring(0, TOO_GREAT.length() - 1));
        Due.fault(TOO_GREAT.length() - 1, TOO_GREAT.replace("}", "#}"));
        Due.fault(FORTY.length(), FORTY + "#");
    }

    private static void endsPlace() {
        for (int blanks = 0; blanks <= 8; blanks++) {
            Due.fault(blanks, " ".repeat(blanks));
            Due.fault(3 + blanks, "a->" + " ".repeat(blanks));
            Due.fault(1 + blanks, " ".repeat(blanks) + "(");
        }
        Due.fault(400, "a|".repeat(200));
        Due.fault(400, " ".repeat(400));
        Due.fault(400, "!" + " ".repeat(399));
    }

    private static void aboveForty() {
        for (int n = 38; n <= 44; n++) {
            Due.fault(n > 40 ? 0 : -1, "{a" + ";a".repeat(n - 1) + "}");
        }
        Due.reads(FORTY);
        Due.fault(0, TOO_GREAT);
        Due.letters("0".repeat(24), FORTY, "a" + " a".repeat(23));
    }

    /** Whether a sequence's weight is six at most, which classes() tells. */
    private static void light(boolean due, String sequence) {
        AssertionBench bench = Text.bench("{" + sequence + "}");
        boolean refused = Check.outcome(() -> bench.classes(0)).equals("UnsupportedOperationException");
        Check.same("six at most: " + sequence, due, !refused);
    }

    private static void ofCondition() {
        light(true, "a;b;c;d;e;f");
        light(false, "a;b;c;d;e;f;a");
        light(true, "a|b;b|c&d;0;1;!e;a|b|c|d|e|f");
        light(false, "a;a;a;a;a;a|b;0");
        Due.reads("{" + "a|b&c;".repeat(39) + "a|b|c|d|e}");
        Due.fault(0, "{" + "a|b&c;".repeat(40) + "a}");
    }

    private static void together() {
        for (String joint : new String[] {";", ":", "||"}) {
            light(true, "a" + (joint + "b").repeat(5));
            light(false, "a" + (joint + "b").repeat(6));
            Due.reads("{a" + (joint + "b").repeat(39) + "}");
            Due.fault(0, "{a" + (joint + "b").repeat(40) + "}");
        }
        light(true, "a;b:c||d;e:f");
        light(false, "a;b:c||d;e:f||a");
    }

    private static void multiplied() {
        light(true, "a&&b");
        light(true, "a&&b[*2]");
        light(true, "a[*2]&&b");
        light(false, "a&&b[*3]");
        light(false, "a[*2]&&b[*2]");
        light(true, "a&&b;c;d");
        light(false, "a&&b;c;d;e");
        Due.reads("{a[*9]&&b[*3]}", "{a[*4]&&b[*7]}", "{a[=9]&&b}");
        Due.fault(0, "{a[*9]&&b[*3];c}");
        Due.fault(0, "{a[*6]&&b[*5]}");
        Due.fault(0, "{a[*4]&&b[*8]}");
    }

    private static void asWithout() {
        light(true, "a[*];b[+];c[*];d[+];e[*];f[+]");
        light(false, "a[*];b[+];c[*];d[+];e[*];f[+];a[*]");
        light(true, "{a;b;c;d;e;f}[*]");
        light(true, "{a;b;c;d;e;f}[+]");
        light(false, "{a;b;c;d;e;f;a}[*]");
        light(false, "{a;b;c;d;e;f;a}[+]");
        Due.reads("{" + FORTY + "[*]}", "{" + FORTY + "[+]}");
        Due.fault(0, "{" + TOO_GREAT + "[*]}");
        Due.fault(0, "{" + TOO_GREAT + "[+]}");
    }

    private static void greatestCount() {
        light(true, "{a;b}[*3]");
        light(false, "{a;b}[*4]");
        light(true, "{a;b}[*0..3]");
        light(false, "{a;b}[*0..4]");
        light(true, "{a;b}[*3..3]");
        light(true, "a[*6]");
        light(false, "a[*7]");
        // A count of none counts as one.
        light(true, "{a;b;c;d;e;f}[*0]");
        light(false, "{a;b;c;d;e;f;a}[*0]");
        light(true, "{a;b;c;d;e;f}[*0..0]");
        light(false, "{a;b;c;d;e;f;a}[*0..0]");
        light(true, "{a;b;c;d;e;f}[*0..1]");
        light(true, "a[*0];b[*0];c[*0];d;e;f");
        light(false, "a[*0];b[*0];c[*0];d;e;f;a[*0]");
        Due.reads("{{a[*5]}[*8]}", "{{a[*5]}[*0..8]}");
        Due.fault(0, "{{a[*5]}[*9]}");
        Due.fault(0, "{{a[*5]}[*0..9]}");
    }

    private static void arrows() {
        light(true, "a[->3]");
        light(false, "a[->4]");
        light(false, "a[->3];b");
        light(true, "a[->2];b;c");
        light(true, "a|b&c[->3]");
        Due.reads("{a[->9];b[->9];c[->2]}");
        Due.fault(0, "{a[->9];b[->9];c[->2];d}");
    }

    private static void exactly() {
        light(true, "a[=2];b");
        light(false, "a[=2];b;c");
        light(false, "a[=3]");
        light(true, "a[=0];b;c;d;e;f");
        light(false, "a[=0];b;c;d;e;f;a");
        Due.reads("{a[=9];b[=9];c[*2]}");
        Due.fault(0, "{a[=9];b[=9];c[*3]}");
    }

    private static void leftToRight() {
        // From right to left the first would weigh 45, and the second 38.
        Due.reads("{a[*8]&&b&&c}");
        Due.fault(0, "{a&&b&&c[*8]}");
        Due.reads("{a&&{b&&c[*8]}}");
        Due.reads("{a&&b&&c&&d}");
        Due.fault(0, "{a&&b&&c&&d&&e}");
    }

    private static void thousand() {
        // Without it these would wrap round to a small weight, as powers of two.
        for (int within = 1; within <= 19; within++) {
            Due.fault(0, "{" + "{".repeat(within) + "a[*8]" + "}[*8]".repeat(within) + "}");
            Due.fault(0, "{" + "{".repeat(within) + "a[*7]&&b[*7]" + "}[*8]".repeat(within) + "}");
            Due.fault(0, "{" + "{".repeat(within) + "a[*7]&&b[*7];a;b" + "}[*8]".repeat(within) + "}");
        }
        Due.fault(0, "{a[*9]" + "&&b[*9]".repeat(55) + "}");
        Due.fault(0, "{a[*7]" + "&&b[*7]".repeat(55) + "}");
    }
}
