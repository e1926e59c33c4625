/** Terms 1 and 2: signals, letters, words, texts, tokens and the grammar. */
final class TextEdges {
    private TextEdges() {
    }

    static void run() {
        Edge.in("Term 1");
        Edge.says("There are six SIGNALS, a .. f.", TextEdges::sixSignals);
        Edge.says("A LETTER is a number 0 .. 63: bit k tells signal k (0 a, 1 b, ..).", TextEdges::letters);
        Edge.says("A WORD is a row of letters, at most 24, with the places 0, 1, ..", TextEdges::words);
        Edge.in("Term 2");
        Edge.says("TEXTS have at most 400 signs, 32 .. 126.", TextEdges::texts);
        Edge.says("There are two PROPERTIES, 0 and 1, each read from a text.", TextEdges::twoProperties);
        Edge.says("TOKENS, with any blanks between them (one at least between two words)", TextEdges::blanks);
        Edge.says("signals; 0 and 1; the words always, never, next, until, before, and; ! & | ; : || && { } ( ) "
                + "-> |-> |=> [*] [+] [*n] [*n..m] [->n] [=n] [n]", TextEdges::tokens);
        Edge.says("n and m being one digit", TextEdges::oneDigit);
        Edge.says("without blanks within.", TextEdges::noBlanksWithin);
        Edge.says("Of several tokens that could begin at a place, it is the longest", TextEdges::longestToken);
        Edge.says("small letters one behind the other are one word, or a signal.", TextEdges::oneWord);
        Edge.says("A CONDITION is one or more TERMS with | between", TextEdges::terms);
        Edge.says("a term one or more of: a signal, 0, 1, each perhaps with a ! ahead, with & between.",
                TextEdges::term);
        Edge.says("It holds of a letter if one of its terms does, all of what the term has holding of it.",
                TextEdges::holding);
        Edge.says("A SEQUENCE is CHAINS with ; between; a chain is BRANCHES with : between; a branch is PAIRS with || "
                + "between; a pair is ITEMS with && between", TextEdges::binding);
        Edge.says("an item is a condition (a whole one: of a | b [*] that is what the [*] is behind) or { a sequence }",
                TextEdges::item);
        Edge.says("and then perhaps one of [*] [+] [*n] [*n..m]", TextEdges::perhapsOne);
        Edge.says("or, behind a condition, of [->n] [=n].", TextEdges::behindCondition);
        Edge.says("A PROPERTY is one of: a condition; { a sequence }; { a sequence } |-> a property; { a sequence } "
                + "|=> a property; a condition -> a property; always a property; never { a sequence }; next a "
                + "property; next [n] a property; ( a property until a condition ); ( a condition before a condition "
                + "); ( a property and a property ).", TextEdges::properties);
        Edge.says("A text is one property.", TextEdges::oneProperty);
    }

    private static void sixSignals() {
        for (int k = 0; k < 6; k++) {
            String signal = String.valueOf((char) ('a' + k));
            Due.letters("0", signal, 1 << k);
            Due.letters("1", signal, 63 ^ 1 << k);
        }
        Due.fault(0, "g");
        Due.fault(0, "z");
        Due.fault(0, "A");
        Due.fault(0, "F");
        Due.fault(0, "`");
    }

    private static void letters() {
        for (int v = 0; v < 64; v++) {
            StringBuilder just = new StringBuilder();
            for (int k = 0; k < 6; k++) {
                just.append(k == 0 ? "" : "&").append((v >> k & 1) == 1 ? "" : "!").append((char) ('a' + k));
            }
            Due.letters("0", just.toString(), v);
            Due.letters("1", just.toString(), v ^ 1 << v % 6);
        }
        AssertionBench bench = new AssertionBench();
        Check.fails("letter -1", IllegalArgumentException.class, () -> bench.letter(-1));
        Check.fails("letter 64", IllegalArgumentException.class, () -> bench.letter(64));
        Check.same("letter 0", 0, bench.letter(0));
        Check.same("letter 63", 0, bench.letter(63));
    }

    private static void words() {
        AssertionBench bench = Text.bench("{a}");
        bench.letter(1);
        for (int place = 1; place < 23; place++) {
            bench.letter(0);
        }
        bench.letter(1);
        Check.fails("a 25th letter", UnsupportedOperationException.class, () -> bench.letter(1));
        Check.same("24 letters", 24, bench.word(0));
        for (int place = 0; place < 24; place++) {
            Check.same("place " + place, place == 0 || place == 23, bench.row(0, place, place + 1));
        }
        Check.fails("there is no place 24", IllegalArgumentException.class, () -> bench.row(0, 24, 25));
    }

    private static void texts() {
        AssertionBench bench = new AssertionBench();
        for (int sign = 32; sign <= 126; sign++) {
            Check.same("sign " + sign, sign - 31, bench.put(sign));
        }
        Check.fails("sign 31", IllegalArgumentException.class, () -> bench.put(31));
        Check.fails("sign 127", IllegalArgumentException.class, () -> bench.put(127));
        bench.end(0);
        Text.put(bench, "a" + " ".repeat(398) + "b");
        Check.fails("a 401st sign", UnsupportedOperationException.class, () -> bench.put('c'));
        Check.same("the 400th is its fault", 399, bench.read(0));
        Check.same("one of 400 signs that is none", -1, Text.read(bench, 0, "0|".repeat(199) + " b"));
        Check.same("it is read to its last sign", 0, bench.letter(2));
        Check.same("and has none but b", 1, Text.bench("0|".repeat(199) + " b").letter(61));
        // As many tokens, parts and sequences as there can be.
        Due.letters("1", "!a" + "|0".repeat(199), "a");
        Due.letters("1", "1->".repeat(133) + "0", "-");
        Due.letters("0", "1->".repeat(132) + "a->0", "-");
        Due.letters("1", "1->".repeat(132) + "a->0", "a");
        Due.letters("1", "{a}|->".repeat(66) + "{b}", "a");
        Due.letters("00", "{a}|->".repeat(66) + "{b}", "ab -");
        Due.letters("01", "({a;b}and".repeat(19) + "{a;c}" + ")".repeat(19), "a b");
        Due.letters("000", "({a;b}and".repeat(19) + "{a;c}" + ")".repeat(19), "a bc -");
    }

    private static void twoProperties() {
        AssertionBench bench = Text.bench("a", "b");
        Check.same("b alone fails property 0", 1, bench.letter(2));
        bench.clear();
        Check.same("a alone fails property 1", 2, bench.letter(1));
        Check.fails("no property 2", IndexOutOfBoundsException.class, () -> bench.read(2));
        Check.fails("no property -1", IndexOutOfBoundsException.class, () -> bench.read(-1));
    }

    private static void blanks() {
        Due.reads("(0until1)", "always!a", "next[2]next(0and!a)", "never{a[*]||b&&c:!d;1}", "a->b", "(0before!f)");
        Due.reads(" a", "a ", "   a   ", "always  a", "  ! a  &  b  |  0  ->  next  [2]  never  {  a  [*]  ;  b  }  ");
        Due.reads("( { a } |=> b until c )", "{ a [*1..2] || { b } [+] && c [->1] : d [=0] }");
        Due.fault(0, "alwaysa");
        Due.fault(0, "nextnext a");
        Due.fault(1, "(auntil b)");
        Due.fault(3, "(a untilb)");
        Due.fault(3, "(a anda)");
        Due.fault(2, "a b");
    }

    private static void tokens() {
        Due.reads("a", "f", "0", "1", "always a", "never {a}", "next a", "(a until b)", "(a before b)", "(a and b)", "!a",
                "a&b", "a|b", "{a;b}", "{a:b}", "{a||b}", "{a&&b}", "{a}", "a->b", "{a}|->b", "{a}|=>b", "{a[*]}",
                "{a[+]}", "{a[*3]}", "{a[*3..4]}", "{a[->3]}", "{a[=3]}", "next[3]a");
        for (String none : new String[] {"2", "9", "~", "^", "=", "-", ">", "<", "+", "*", ".", "]", "/", "@", "#", "\"",
            "'", ",", "?", "_", "or", "not", "eventually", "weak", "Always", "alway", "alwayss", "nex", "ands"}) {
            Due.fault(0, none);
            Due.fault(2, "a&" + none);
        }
        Due.fault(1, "a=>b");
        Due.fault(1, "a<-b");
    }

    private static void oneDigit() {
        for (int n = 0; n <= 9; n++) {
            Due.reads("{a[*" + n + "]}", "{a[*" + n + "..9]}", "{a[*0.." + n + "]}", "{a[=" + n + "]}", "next[" + n + "]a");
            Due.fault(n == 0 ? 2 : -1, "{a[->" + n + "]}");
        }
        for (String none : new String[] {"[*10]", "[*00]", "[*1..10]", "[*10..9]", "[*..1]", "[*1..]", "[*1.2]",
            "[*1...2]", "[*a..2]", "[*1..a]", "[->10]", "[->]", "[=10]", "[=]", "[*a]", "[->a]", "[=a]", "[*/]", "[*:]", "[->/]", "[->:]", "[=/]", "[=:]", "[*-1]", "[+1]", "[]"}) {
            Due.fault(2, "{a" + none + "}");
        }
        Due.fault(4, "next[10]a");
        Due.fault(4, "next[]a");
        Due.fault(4, "next[a]a");
        Due.fault(4, "next[/]a");
        Due.fault(4, "next[:]a");
        Due.fault(4, "next[1..2]a");
    }

    private static void noBlanksWithin() {
        for (String none : new String[] {"[ *]", "[* ]", "[ +]", "[+ ]", "[ *2]", "[* 2]", "[*2 ]", "[*1 ..2]", "[*1. .2]",
            "[*1.. 2]", "[*1..2 ]", "[ ->1]", "[- >1]", "[-> 1]", "[->1 ]", "[ =1]", "[= 1]", "[=1 ]"}) {
            Due.fault(2, "{a" + none + "}");
        }
        Due.fault(4, "next[ 1]a");
        Due.fault(4, "next[1 ]a");
        Due.fault(4, "{a| |b}");
        Due.fault(4, "{a& &b}");
        Due.fault(1, "a- >b");
        Due.fault(3, "{a}| ->b");
        Due.fault(3, "{a}|- >b");
        Due.fault(3, "{a}| =>b");
        Due.fault(3, "{a}|= >b");
        Due.fault(0, "al ways a");
        Due.fault(3, "(a un til b)");
    }

    private static void longestToken() {
        Due.fault(1, "a|->b");
        Due.fault(1, "a|=>b");
        Due.fault(1, "a||b");
        Due.fault(1, "a&&b");
        Due.fault(2, "{a|->b}");
        Due.fault(2, "{a|=>b}");
        Due.reads("{a||b}", "{a&&b}", "{a|b}", "{a&b}", "{a|b||c|d}", "{a&b&&c&d}");
        Due.fault(4, "{a|||b}");
        Due.fault(4, "{a&&&b}");
        Due.fault(4, "{a||->b}");
        // Two signs that are no longer token are two tokens.
        Due.fault(3, "{a|=b}");
        Due.fault(3, "{a|-b}");
        Due.fault(4, "next[->1]a");
        Due.fault(4, "next[*1]a");
        Due.fault(2, "{a[1]}");
    }

    private static void oneWord() {
        Due.fault(0, "ab");
        Due.fault(0, "aa");
        Due.fault(1, "{ab}");
        Due.fault(0, "nexta");
        Due.fault(0, "anda");
        Due.fault(0, "untiluntil");
        Due.fault(2, "a|bc");
        Due.fault(3, "{a;fa}");
        // A word ends with a sign that is no small letter.
        Due.reads("always0", "always{a}", "next(a and b)", "(1and 0)");
    }

    private static void terms() {
        Due.reads("a", "a|b", "a|b|c|d|e|f|0|1", "a" + "|a".repeat(199), "!a" + "|a".repeat(199));
        Due.fault(0, "");
        Due.fault(0, "|a");
        Due.fault(2, "a|");
        Due.fault(3, "a| |b");
        Due.fault(2, "a|&b");
        Due.letters("0", "0" + "|0".repeat(198) + "|f", 32);
        Due.letters("1", "0" + "|0".repeat(198) + "|f", 31);
    }

    private static void term() {
        Due.reads("a", "a&b", "!a", "!0", "!1", "a&!b&c&!d&e&!f&0&1", "a" + "&a".repeat(199));
        Due.fault(0, "&a");
        Due.fault(2, "a&");
        Due.fault(3, "a& &b");
        Due.fault(1, "!");
        Due.fault(1, "!!a");
        Due.fault(3, "a&!|b");
        Due.fault(1, "a!b");
        Due.fault(1, "!{a}");
        Due.fault(1, "!(a and b)");
        Due.letters("1", "1" + "&1".repeat(198) + "&f", 31);
        Due.letters("0", "1" + "&1".repeat(198) + "&f", 32);
    }

    private static void holding() {
        for (int v = 0; v < 64; v++) {
            boolean a = (v & 1) != 0;
            boolean b = (v & 2) != 0;
            boolean c = (v & 4) != 0;
            boolean f = (v & 32) != 0;
            Due.letters(a && b || c ? "0" : "1", "a&b|c", v);
            Due.letters(a || b && c ? "0" : "1", "a|b&c", v);
            Due.letters(!a && f || !f ? "0" : "1", "!a&f|!f&1", v);
            Due.letters(a && !a || b ? "0" : "1", "a&!a|0|b", v);
            Due.letters("1", "a&0|!1", v);
            Due.letters("0", "a&0|!0", v);
        }
    }

    private static void binding() {
        // Each binds closer than the one ahead of it.
        Due.rows("a;b:c", "a bc");
        Due.dead("a;b:c", "a b c");
        Due.rows("a:b;c", "ab c");
        Due.rows("a:b||c", "ab", "ac");
        Due.dead("a:b||c", "c");
        Due.rows("a||b:c", "ac", "bc");
        Due.dead("a||b:c", "a");
        Due.rows("a||b&&c", "a", "bc");
        Due.dead("a||b&&c", "b", "c");
        Due.rows("a&&b||c", "ab", "c");
        Due.rows("a;b||c", "a b", "a c");
        Due.dead("a;b||c", "c");
        Due.rows("a&&b;c", "ab c");
        Due.reads("{a;b;c}", "{a:b:c}", "{a||b||c}", "{a&&b&&c}", "{a}");
        for (String joint : new String[] {";", ":", "||", "&&"}) {
            Due.fault(1, "{" + joint + "a}");
            Due.fault(2 + joint.length(), "{a" + joint + "}");
            Due.fault(2 + joint.length(), "{a" + joint + ";b}");
        }
        Due.fault(1, "{}");
    }

    private static void item() {
        Due.rows("a | b [*]", "", "a", "b", "a b a", "b a");
        Due.dead("a | b [*]", "c");
        Due.rows("a & b [*2]", "ab ab");
        Due.dead("a & b [*2]", "a");
        Due.rows("a | b [->1]", "c c a", "b");
        Due.rows("{a}", "a");
        Due.rows("{{{a}}}", "a");
        Due.rows("{a ; b} [*2]", "a b a b");
        Due.fault(2, "{{}}");
        Due.fault(3, "{a|{b}}");
        Due.fault(2, "{a{b}}");
        Due.fault(1, "{(a)}");
        Due.fault(1, "{always a}");
    }

    private static void perhapsOne() {
        Due.reads("{a}", "{a[*]}", "{a[+]}", "{a[*2]}", "{a[*2..3]}", "{{a}}", "{{a}[*]}", "{{a}[+]}", "{{a}[*2]}",
                "{{a}[*2..3]}", "{{a[*]}[*]}");
        for (String first : new String[] {"[*]", "[+]", "[*2]", "[*2..3]", "[->1]", "[=1]"}) {
            for (String second : new String[] {"[*]", "[+]", "[*2]", "[*2..3]", "[->1]", "[=1]", "[1]"}) {
                Due.fault(2 + first.length(), "{a" + first + second + "}");
            }
        }
        Due.fault(7, "{{a}[*][+]}");
        Due.fault(3, "{a}[*]");
        Due.fault(1, "a[*]");
        Due.fault(1, "{[*]}");
        Due.fault(3, "{a;[*]}");
    }

    private static void behindCondition() {
        Due.reads("{a[->1]}", "{a[=1]}", "{a|!b&c[->9]}", "{0[=0]}");
        Due.fault(4, "{{a}[->1]}");
        Due.fault(4, "{{a}[=1]}");
        Due.fault(9, "{{a[->1]}[->1]}");
        Due.fault(9, "{{a[->1]}[=1]}");
    }

    private static void properties() {
        Due.reads("a", "{a}", "{a}|->b", "{a}|=>b", "a->b", "always a", "never{a}", "next a", "next[1]a", "(a until b)",
                "(a before b)", "(a and b)", "{a}|->{b}|=>c->always next never{d}", "((a until b)and(a before b))",
                "(always({a}|->b and c->d)until e)", "always always a", "next next[2] next a");
        Due.fault(6, "never a");
        Due.fault(9, "never {a}|->b");
        Due.fault(6, "always");
        Due.fault(4, "next");
        Due.fault(7, "next[1]");
        Due.fault(2, "(a)");
        Due.fault(6, "(a and)");
        Due.fault(9, "(a until (b and c))");
        Due.fault(11, "(a until b until c)");
        Due.fault(10, "(a before {b})");
        Due.fault(10, "(a until b");
        Due.fault(6, "(a->b before c)");
        Due.fault(8, "(next a before b)");
        Due.fault(5, "({a} before b)");
        Due.fault(14, "((a before b) before c)");
        Due.fault(1, "a{b}");
        Due.fault(3, "{a}->b");
        Due.fault(4, "(a&b)");
        Due.fault(0, "until");
        Due.fault(0, ")");
        Due.fault(0, "}");
    }

    private static void oneProperty() {
        Due.fault(0, "");
        Due.fault(1, " ");
        Due.fault(2, "a a");
        Due.fault(1, "a;b");
        Due.fault(3, "{a}{b}");
        Due.fault(11, "(a until b)(c until d)");
        Due.fault(1, "a)");
        Due.fault(3, "{a}}");
    }
}
