/** Terms 5: designs, and design texts with their faults. */
final class DesignEdges {
    /** Sixty gates, and a signal begun of which the next gate is one too many. */
    private static final String SIXTY = "input x;signal a=x" + "^x".repeat(20);
    private static final String FULL = SIXTY + ";signal b=x";

    private DesignEdges() {
    }

    static void run() {
        Edge.in("Term 5");
        Edge.says("DESIGNS: 1 to 3 INPUTS, 0 to 5 LATCHES, GATES, at most 60.", DesignEdges::sizes);
        Edge.says("A VALUE has a number: 0 is false; 1 .. are the inputs, then the latches, then the gates in order.",
                DesignEdges::values);
        Edge.says("A LITERAL is twice a value's number, and 1 more for its opposite.", DesignEdges::literals);
        Edge.says("A gate is 1 if both its literals are.", DesignEdges::gate);
        Edge.says("Each latch has a literal that it is next, and what it is at first.", DesignEdges::latch);
        Edge.says("Each signal is a literal.", DesignEdges::signal);
        Edge.says("A CYCLE: inputs are given (a number, bit k for input k), gates and signals follow, which make a letter; "
                + "then the latches change.", DesignEdges::cycle);
        Edge.says("A DESIGN TEXT is STATEMENTS, each ended by ;", DesignEdges::ended);
        Edge.says("first input and a name, once for each input, then latch, a name, and 0 or 1 (what it is at first), "
                + "once for each latch;", DesignEdges::inputsThenLatches);
        Edge.says("then, none or some, in any order: wire name = expression; next name = expression (of a latch); "
                + "signal s = expression (s one of a .. f).", DesignEdges::statements);
        Edge.says("Tokens: words of small letters (one to eight, as many as there are), 0, 1, ; = ! & | ^ ( )",
                DesignEdges::tokens);
        Edge.says("blanks between them (one at least between two words).", DesignEdges::blanks);
        Edge.says("An EXPRESSION is parts with | or ^ between, reckoned from left to right; a part is factors with & between",
                DesignEdges::expressions);
        Edge.says("a factor is 0, 1, the name of an input, a latch or a wire told ahead, ! and a factor, or ( an expression ).",
                DesignEdges::factors);
        Edge.says("The names input, latch, wire, next and signal are no names, nor may a name be told twice (a signal's "
                + "letter may be a name).", DesignEdges::names);
        Edge.says("Each & is a gate of both literals, in the order in which its second one ends;", DesignEdges::order);
        Edge.says("x | y is the opposite of a gate of both opposites; x ^ y is three gates: x and the opposite of y; the "
                + "opposite of x and y; the opposites of both; of which the opposite is x ^ y.", DesignEdges::gates);
        Edge.says("Nothing is left out or shared.", DesignEdges::nothingShared);
        Edge.says("What isn't told: a latch stays as it is; a signal is the first input; told once more the later one "
                + "counts.", DesignEdges::notTold);
        Edge.says("The FAULT of a design text is the first place of a token (or sign that begins none, or word that is too "
                + "long) that can't come there by all this, the end being one;", DesignEdges::wrongToken);
        Edge.says("of a fourth input, a sixth latch,", DesignEdges::tooMany);
        Edge.says("a ( at which more than twenty would be open,", DesignEdges::twentyOpen);
        Edge.says("or of an &, | or ^ that makes a gate too many", DesignEdges::gateTooMany);
        Edge.says("(as soon as what is behind it has ended, whatever token comes then: ahead of that one's fault;",
                DesignEdges::asSoonAsEnded);
        Edge.says("of several the one that ends first: of one within another that within).", DesignEdges::within);
        Edge.says("The place of a fourth input or sixth latch is that of its word input, latch.", DesignEdges::placeOfWord);
    }

    private static void sizes() {
        AssertionBench bench = new AssertionBench();
        for (int inputs = -1; inputs <= 4; inputs++) {
            for (int latches = -1; latches <= 6; latches++) {
                int i = inputs;
                int l = latches;
                if (i >= 1 && i <= 3 && l >= 0 && l <= 5) {
                    bench.design(i, l);
                    Check.same("inputs and latches", i + " " + l, bench.has(0) + " " + bench.has(1));
                } else {
                    Check.refuses("design " + i + " " + l, IllegalArgumentException.class, () -> bench.design(i, l));
                }
            }
        }
        for (int k = 0; k < 60; k++) {
            bench.gate(0, 0);
        }
        Check.same("sixty gates", 60, bench.has(2));
        Check.fails("a 61st", UnsupportedOperationException.class, () -> bench.gate(0, 0));
        greatest();
    }

    /** All inputs, latches and gates that there may be, each gate one of the one ahead, and all are tried. */
    private static void greatest() {
        AssertionBench bench = Text.bench("always !f", "next[3] f");
        bench.design(3, 5);
        for (int k = 0; k < 5; k++) {
            bench.latch(k, 8 + 2 * k, true);
        }
        int value = bench.gate(6, 4);
        for (int k = 1; k < 60; k++) {
            value = bench.gate(2 * value, k % 2 == 0 ? 2 : 8 + 2 * (k % 5));
        }
        Check.same("the last value", 68, value);
        bench.signal(5, 2 * value);
        Check.same("only with all three inputs", 1, bench.search(0, 4));
        Check.same("these", 7, bench.run(0, 0));
        Check.same("and all latches", 31, bench.run(0, 2));
        bench.signal(5, 2 * value + 1);
        Check.same("nor is there one that fails", 4, bench.search(1, 4));
        Check.same("with the fourth cycle", "0007", "" + bench.run(0, 0) + bench.run(1, 0) + bench.run(2, 0) + bench.run(3, 0));
        bench.signal(5, 0);
        Check.same("none at all", 0, bench.search(0, 4));
    }

    /** A bench whose property 0 fails just with some inputs, and those are found with the first cycle. */
    private static AssertionBench found(int inputs, int latches, int wanted) {
        StringBuilder just = new StringBuilder();
        for (int k = 0; k < inputs; k++) {
            just.append(k == 0 ? "" : "|").append((wanted >> k & 1) == 1 ? "!" : "").append((char) ('a' + k));
        }
        AssertionBench bench = Text.bench(just.toString());
        bench.design(inputs, latches);
        for (int k = 0; k < inputs; k++) {
            bench.signal(k, 2 * (1 + k));
        }
        return bench;
    }

    private static void values() {
        for (int wanted = 0; wanted < 8; wanted++) {
            AssertionBench bench = found(3, 1, wanted);
            bench.latch(0, 0, true);
            bench.signal(3, 0);
            bench.signal(4, 8);
            Check.same("the first gate's number", 5, bench.gate(1, 8));
            Check.same("the second gate's", 6, bench.gate(10, 2));
            bench.signal(5, 12);
            Check.same("one cycle", 1, bench.search(0, 1));
            Check.same("its inputs", wanted, bench.run(0, 0));
            Check.same("d is false, e the latch, f a gate of the gate and the first input",
                    wanted + 16 + (wanted & 1) * 32, bench.run(0, 1));
        }
    }

    private static void literals() {
        for (int wanted = 0; wanted < 4; wanted++) {
            AssertionBench bench = found(2, 0, wanted);
            bench.signal(2, 3);
            bench.signal(3, 5);
            bench.signal(4, 1);
            bench.signal(5, 0);
            bench.search(0, 1);
            Check.same("opposites", wanted + (3 - wanted) * 4 + 16, bench.run(0, 1));
        }
        AssertionBench bench = new AssertionBench();
        bench.signal(0, 3);
        Check.refuses("one input has no literal 4", IllegalArgumentException.class, () -> bench.signal(0, 4));
        Check.refuses("nor -1", IllegalArgumentException.class, () -> bench.signal(0, -1));
        bench.gate(0, 0);
        bench.signal(0, 5);
        Check.refuses("one gate has no literal 6", IllegalArgumentException.class, () -> bench.signal(0, 6));
    }

    private static void gate() {
        for (int wanted = 0; wanted < 4; wanted++) {
            AssertionBench bench = found(2, 0, wanted);
            bench.signal(2, 2 * bench.gate(2, 4));
            bench.signal(3, 2 * bench.gate(3, 4));
            bench.signal(4, 2 * bench.gate(2, 2));
            bench.signal(5, 2 * bench.gate(2, 3));
            bench.search(0, 1);
            int both = wanted == 3 ? 4 : 0;
            int second = wanted == 2 ? 8 : 0;
            Check.same("gates of " + wanted, wanted + both + second + (wanted & 1) * 16, bench.run(0, 1));
        }
    }

    private static void latch() {
        AssertionBench bench = Text.bench("{1[*3]}|->0");
        bench.design(1, 5);
        bench.latch(0, 4, true);
        bench.latch(1, 7, true);
        bench.latch(2, 1, false);
        bench.latch(3, 0, true);
        bench.latch(4, 6, false);
        Check.same("three cycles", 3, bench.search(0, 3));
        Check.same("at first", 1 + 2 + 8, bench.run(0, 2));
        Check.same("it stays, its opposite, true, false, and what another was", 1 + 4 + 16, bench.run(1, 2));
        Check.same("and once more", 1 + 2 + 4, bench.run(2, 2));
    }

    private static void signal() {
        AssertionBench bench = Text.bench("0");
        for (int k = 0; k < 6; k++) {
            bench.signal(k, k % 2);
        }
        bench.search(0, 1);
        Check.same("every second signal is true", 2 + 8 + 32, bench.run(0, 1));
        Check.refuses("signal 6", IllegalArgumentException.class, () -> bench.signal(6, 0));
        Check.refuses("signal -1", IllegalArgumentException.class, () -> bench.signal(-1, 0));
    }

    private static void cycle() {
        AssertionBench bench = Text.bench("{1;1}|->!b");
        Text.readDesign(bench, "input x;input y;latch q 0;next q=x;signal a=q;signal b=q&y;signal c=x;");
        Check.same("two cycles", 2, bench.search(0, 2));
        Check.same("bit 0 is x", 1, bench.run(0, 0));
        Check.same("q is not yet 1, and what isn't told is x", 4 + 8 + 16 + 32, bench.run(0, 1));
        Check.same("ahead of the first cycle", 0, bench.run(0, 2));
        Check.same("bit 1 is y", 2, bench.run(1, 0));
        Check.same("then it is", 3, bench.run(1, 1));
        Check.same("ahead of the second", 1, bench.run(1, 2));
    }

    private static void ended() {
        Due.numbers("aag 1 1 0 6 0 2 2 2 2 2 2 2", "input x;");
        Due.designFault(7, "input x");
        Due.designFault(15, "input x;input y");
        Due.designFault(17, "input x;latch q 0");
        Due.designFault(18, "input x;signal a=x");
        Due.designFault(19, "input x;signal a=x signal b=x;");
        Due.designFault(8, "input x input y;");
        Due.designFault(8, "input x;;");
        Due.designFault(0, ";");
    }

    private static void inputsThenLatches() {
        Due.numbers("aag 3 3 0 6 0 2 4 6 2 2 2 2 2 2", "input x;input y;input z;");
        Due.numbers("aag 2 1 1 6 0 2 4 4 0 2 2 2 2 2 2", "input x;latch q 0;");
        Due.numbers("aag 6 1 5 6 0 2 4 4 0 6 6 1 8 8 0 10 10 1 12 12 1 2 2 2 2 2 2",
                "input x;latch p 0;latch q 1;latch r 0;latch s 1;latch t 1;");
        Due.designFault(0, "");
        Due.designFault(2, "  ");
        Due.designFault(0, "latch q 0;");
        Due.designFault(0, "signal a=0;");
        Due.designFault(6, "input ;");
        Due.designFault(6, "input 0;");
        Due.designFault(15, "input x;latch q;");
        Due.designFault(14, "input x;latch 0;");
        Due.designFault(16, "input x;latch q 2;");
        Due.designFault(16, "input x;latch q x;");
        Due.designFault(18, "input x;latch q 0 1;");
        Due.designFault(18, "input x;latch q 0;input y;");
        Due.designFault(19, "input x;signal a=x;input y;");
        Due.designFault(19, "input x;signal a=x;latch q 0;");
        Due.designFault(17, "input x;wire w=x;latch q 0;");
    }

    private static void statements() {
        Due.numbers("aag 2 1 1 6 0 2 4 2 0 4 2 2 2 2 2",
                "input x;latch q 0;signal a=q;next q=0;wire w=x;next q=w;signal b=w;");
        for (int k = 0; k < 6; k++) {
            AssertionBench bench = new AssertionBench();
            Check.same("signal " + k, -1, Text.readDesign(bench, "input x;signal " + (char) ('a' + k) + "=!x;"));
            for (int s = 0; s < 6; s++) {
                Check.same("signal " + s, s == k ? 3 : 2, bench.has(3 + s));
            }
        }
        Due.designFault(15, "input x;signal g=x;");
        Due.designFault(15, "input g;signal g=g;");
        Due.designFault(15, "input x;signal aa=x;");
        Due.designFault(15, "input x;signal 0=x;");
        Due.designFault(13, "input x;next x=x;");
        Due.designFault(13, "input x;next q=x;");
        Due.designFault(32, "input x;latch q 0;wire w=x;next w=x;");
        Due.designFault(15, "input x;wire w x;");
        Due.designFault(13, "input x;wire =x;");
        Due.designFault(17, "input x;signal a x;");
        Due.designFault(17, "input x;signal a=;");
        Due.designFault(8, "input x;x=0;");
    }

    private static void tokens() {
        Due.numbers("aag 1 1 0 6 0 2 3 2 2 2 2 2", "input a;signal a=!a;");
        Due.numbers("aag 1 1 0 6 0 2 3 2 2 2 2 2", "input abcdefgh;signal a=!abcdefgh;");
        Due.numbers("aag 2 2 0 6 0 2 4 2 4 2 2 2 2", "input zzzzzzzz;input zzzzzzzy;signal a=zzzzzzzz;signal b=zzzzzzzy;");
        Due.designFault(6, "input abcdefghi;");
        Due.designFault(0, "abcdefghi");
        Due.designFault(8, "input x;abcdefghi");
        Due.designFault(17, "input x;signal a=xxxxxxxxx;");
        // A word has as many letters as there are: these are names, and no words with a name behind.
        Due.designFault(0, "inputx;");
        Due.numbers("aag 1 1 0 6 0 2 2 2 2 2 2 2", "input inputx;");
        Due.designFault(8, "input x;signala=x;");
        for (String none : new String[] {"2", "9", "-", "+", "*", "A", "X", "[", "]", "{", "}", ":", ",", ".", "#", "~", "_",
            "<", ">", "'", "\""}) {
            Due.designFault(17, "input x;signal a=" + none + ";");
            Due.designFault(6, "input " + none + ";");
            Due.designFault(0, none);
        }
    }

    private static void blanks() {
        String due = "aag 4 1 1 6 2 2 4 8 1 7 2 2 2 2 2 6 2 4 8 2 2";
        Due.numbers(due, "input x;latch q1;signal a=!(x&q);next q=x&x;");
        Due.numbers(due, "  input  x  ;  latch  q  1  ;  signal  a  =  !  (  x  &  q  )  ;  next  q  =  x  &  x  ;  ");
        Due.designFault(0, "inputx ;");
        Due.designFault(8, "input x;latchq 1;");
        Due.designFault(0, "in put x;");
        Due.designFault(8, "input x;sig nal a=x;");
        Due.designFault(8, "input x y;");
    }

    private static void expressions() {
        Due.numbers("aag 6 2 0 6 4 2 4 13 2 2 2 2 2 6 3 5 8 7 3 10 6 2 12 9 11", "input x;input y;signal a=x|y^x;");
        Due.numbers("aag 6 2 0 6 4 2 4 13 2 2 2 2 2 6 2 5 8 3 4 10 7 9 12 10 3", "input x;input y;signal a=x^y|x;");
        Due.numbers("aag 4 2 0 6 2 2 4 8 2 2 2 2 2 6 2 4 8 6 2", "input x;input y;signal a=x&y&x;");
        Due.numbers("aag 4 2 0 6 2 2 4 9 2 2 2 2 2 6 4 2 8 3 7", "input x;input y;signal a=x|y&x;");
        Due.numbers("aag 4 2 0 6 2 2 4 9 2 2 2 2 2 6 2 4 8 7 3", "input x;input y;signal a=x&y|x;");
        Due.designFault(17, "input x;signal a=&x;");
        Due.designFault(17, "input x;signal a=|x;");
        Due.designFault(17, "input x;signal a=^x;");
        Due.designFault(19, "input x;signal a=x&&x;");
        Due.designFault(19, "input x;signal a=x||x;");
        Due.designFault(19, "input x;signal a=x^;");
        Due.designFault(19, "input x;signal a=x x;");
    }

    private static void factors() {
        Due.numbers("aag 2 1 1 6 0 2 4 4 0 0 1 2 4 2 3",
                "input x;latch q 0;wire w=x;signal a=0;signal b=1;signal c=x;signal d=q;signal e=w;signal f=!w;");
        Due.numbers("aag 1 1 0 6 0 2 1 0 2 3 2 3", "input x;signal a=!0;signal b=!1;signal c=!!x;signal d=!!!x;signal e=((x));"
                + "signal f=!(!(!x));");
        Due.numbers("aag 4 2 0 6 2 2 4 6 9 2 2 2 2 6 3 4 8 2 4", "input x;input y;signal a=!x&y;signal b=!(x&y);");
        Due.designFault(17, "input x;signal a=y;");
        Due.designFault(15, "input x;wire w=w;");
        Due.designFault(15, "input x;wire v=w;wire w=x;");
        Due.designFault(28, "input x;signal a=x;signal b=a;");
        Due.designFault(18, "input x;signal a=();");
        Due.designFault(19, "input x;signal a=(x;");
        Due.designFault(18, "input x;signal a=x);");
        Due.designFault(18, "input x;signal a=!;");
        Due.designFault(18, "input x;signal a=x!x;");
        Due.designFault(18, "input x;signal a=x(x);");
        Due.designFault(18, "input x;signal a=01;");
    }

    private static void names() {
        for (String word : new String[] {"input", "latch", "wire", "next", "signal"}) {
            Due.designFault(6, "input " + word + ";");
            Due.designFault(14, "input x;latch " + word + " 0;");
            Due.designFault(13, "input x;wire " + word + "=x;");
            Due.designFault(13, "input x;next " + word + "=x;");
            Due.designFault(17, "input x;signal a=" + word + ";");
        }
        Due.designFault(14, "input x;input x;");
        Due.designFault(14, "input x;latch x 0;");
        Due.designFault(24, "input x;latch q 0;latch q 1;");
        Due.designFault(13, "input x;wire x=x;");
        Due.designFault(23, "input x;latch q 0;wire q=x;");
        Due.designFault(22, "input x;wire w=0;wire w=1;");
        Due.numbers("aag 3 2 1 6 0 2 4 6 4 1 2 4 6 3 2 2",
                "input a;input b;latch c 1;wire d=!a;next c=b;signal a=a;signal b=b;signal c=c;signal d=d;");
        Due.numbers("aag 1 1 0 6 0 2 2 2 2 2 2 2", "input f;signal f=f;signal f=f;");
        // Names that are alike but for a letter, or for how many there are.
        Due.numbers("aag 3 3 0 6 0 2 4 6 2 4 6 2 2 2", "input ab;input r;input ba;signal a=ab;signal b=r;signal c=ba;");
        Due.numbers("aag 3 3 0 6 0 2 4 6 2 4 6 2 2 2", "input a;input aa;input aaa;signal a=a;signal b=aa;signal c=aaa;");
        Due.numbers("aag 3 3 0 6 0 2 4 6 2 4 6 2 2 2",
                "input aaaaaaaa;input baaaaaaa;input aaaaaaab;signal a=aaaaaaaa;signal b=baaaaaaa;signal c=aaaaaaab;");
        Due.numbers("aag 3 3 0 6 0 2 4 6 2 4 6 2 2 2", "input zz;input z;input zzzzzzzz;signal a=zz;signal b=z;signal c=zzzzzzzz;");
        mostNames();
    }

    /** As many names as four hundred signs can have. */
    private static void mostNames() {
        StringBuilder text = new StringBuilder("input a;input b;input c;");
        for (int k = 3; k < 26; k++) {
            text.append("wire ").append((char) ('a' + k)).append("=0;");
        }
        for (int k = 0; k < 14; k++) {
            text.append("wire ").append((char) ('a' + k)).append("a=1;");
        }
        String last = text + "signal f=ma&na;";
        Check.holds("it fits", last.length() <= 400);
        Due.numbers("aag 4 3 0 6 1 2 4 6 2 2 2 2 2 8 8 1 1", last);
        Due.designFault(text.length() + 5, text + "wire na=0;");
    }

    private static void order() {
        Due.numbers("aag 5 3 0 6 2 2 4 6 10 2 2 2 2 2 8 4 6 10 2 8", "input x;input y;input z;signal a=x&(y&z);");
        Due.numbers("aag 5 3 0 6 2 2 4 6 10 2 2 2 2 2 8 2 4 10 8 6", "input x;input y;input z;signal a=x&y&z;");
        Due.numbers("aag 6 3 0 6 3 2 4 6 12 2 2 2 2 2 8 2 4 10 6 2 12 8 10", "input x;input y;input z;signal a=(x&y)&(z&x);");
        Due.numbers("aag 4 2 0 6 2 2 4 6 8 2 2 2 2 6 2 4 8 4 2", "input x;input y;signal a=x&y;signal b=y&x;");
        Due.numbers("aag 4 2 0 6 2 2 4 8 6 2 2 2 2 6 2 4 8 4 2", "input x;input y;signal b=x&y;signal a=y&x;");
    }

    private static void gates() {
        Due.numbers("aag 3 2 0 6 1 2 4 7 2 2 2 2 2 6 3 5", "input x;input y;signal a=x|y;");
        Due.numbers("aag 3 2 0 6 1 2 4 7 2 2 2 2 2 6 2 4", "input x;input y;signal a=!x|!y;");
        Due.numbers("aag 5 2 0 6 3 2 4 11 2 2 2 2 2 6 2 5 8 3 4 10 7 9", "input x;input y;signal a=x^y;");
        Due.numbers("aag 5 2 0 6 3 2 4 10 2 2 2 2 2 6 3 5 8 2 4 10 7 9", "input x;input y;signal a=!(!x^y);");
        AssertionBench bench = Text.bench("!c");
        Text.readDesign(bench, "input x;input y;signal c=x^y;signal a=x;signal b=y;signal d=x|y;");
        bench.search(0, 1);
        Check.same("x ^ y is 1 first with x alone", 1, bench.run(0, 0));
        Check.same("and so is x | y", 1 + 4 + 8, bench.run(0, 1) & 15);
    }

    private static void nothingShared() {
        Due.numbers("aag 5 1 0 6 4 2 4 6 8 2 2 2 4 2 2 6 2 2 8 0 1 10 2 0",
                "input x;signal a=x&x;signal b=x&x;signal c=0&1;wire w=x&0;");
        Due.numbers("aag 2 1 0 6 1 2 2 2 2 2 2 2 4 3 3", "input x;wire unused=x|x;");
        Due.numbers("aag 4 1 0 6 3 2 9 2 2 2 2 2 4 2 3 6 3 2 8 5 7", "input x;signal a=x^x;");
        // A wire is what it was told by: a gate of it is not made again.
        Due.numbers("aag 2 1 0 6 1 2 4 4 5 2 2 2 4 2 2", "input x;wire w=x&x;signal a=w;signal b=w;signal c=!w;");
    }

    private static void notTold() {
        Due.numbers("aag 4 2 2 6 0 2 4 6 6 1 8 8 0 2 2 2 2 2 2", "input x;input y;latch p 1;latch q 0;");
        Due.numbers("aag 4 1 1 6 2 2 4 3 0 0 2 2 2 2 2 6 2 2 8 2 2",
                "input x;latch q 0;next q=x&x;next q=!x;signal a=x&x;signal a=0;");
        Due.numbers("aag 2 1 1 6 0 2 4 4 0 2 2 2 2 2 2", "input x;latch q 0;next q=x;next q=q;");
        AssertionBench bench = new AssertionBench();
        Text.readDesign(bench, "input x;input y;latch p 1;next p=y;signal f=p;");
        Check.same("told", -1, Text.readDesign(bench, "input x;input y;latch p 0;"));
        Check.same("nothing stays from the design ahead", "aag 3 2 1 6 0 2 4 6 6 0 2 2 2 2 2 2", Text.numbers(bench));
    }

    private static void wrongToken() {
        Due.designFault(0, "");
        Due.designFault(3, "   ");
        Due.designFault(5, "input");
        Due.designFault(6, "input ");
        Due.designFault(9, "input x  ");
        Due.designFault(0, "x");
        Due.designFault(0, "wire w=0;");
        Due.designFault(6, "input #");
        Due.designFault(7, "input x#");
        Due.designFault(8, "input x;#");
        Due.designFault(8, "input x;0");
        Due.designFault(8, "input x;signl a=x;");
        Due.designFault(6, "input abcdefghi;");
        Due.designFault(17, "input x;signal a=abcdefghi;");
        Due.designFault(18, "input x;signal a=x#");
        Due.designFault(18, "input x;signal a=x=");
        Due.designFault(20, "input x;signal a=x &");
        // The first one that can't come is the fault, whatever stands behind it.
        Due.designFault(6, "input input abcdefghi #");
        Due.designFault(400, "input x;signal a=" + "!".repeat(383));
        Due.designFault(398, "input x;" + " ".repeat(390) + "in");
        Due.designFault(400, "input x;" + " ".repeat(388) + "wire");
    }

    private static void tooMany() {
        String three = "input x;input y;input z;";
        Due.numbers("aag 3 3 0 6 0 2 4 6 2 2 2 2 2 2", three);
        Due.designFault(24, three + "input u;");
        Due.designFault(24, three + "input x;");
        String five = "input x;latch p 0;latch q 0;latch r 0;latch s 0;latch t 0;";
        Due.numbers("aag 6 1 5 6 0 2 4 4 0 6 6 0 8 8 0 10 10 0 12 12 0 2 2 2 2 2 2", five);
        Due.designFault(58, five + "latch u 0;");
        String all = three + five.substring(8);
        Due.numbers("aag 8 3 5 6 0 2 4 6 8 8 0 10 10 0 12 12 0 14 14 0 16 16 0 2 2 2 2 2 2", all);
        Due.designFault(74, all + "latch u 0;");
    }

    private static void placeOfWord() {
        String three = "input x;input y;input z;";
        for (String behind : new String[] {"", " u;", " 0", " #", ";", " input"}) {
            Due.designFault(24, three + "input" + behind);
            Due.designFault(27, three + "   input" + behind);
            Due.designFault(58, "input x;latch p 0;latch q 0;latch r 0;latch s 0;latch t 0;latch" + behind);
            Due.designFault(60, "input x;latch p 0;latch q 0;latch r 0;latch s 0;latch t 0;  latch" + behind);
        }
    }

    private static void twentyOpen() {
        String ahead = "input x;signal a=";
        for (int open = 1; open <= 23; open++) {
            Due.designFaultOrNone(open <= 20 ? -1 : 37, ahead + "(".repeat(open) + "x" + ")".repeat(open) + ";");
        }
        Due.designFaultOrNone(-1, ahead + "!(".repeat(20) + "x" + ")".repeat(20) + ";");
        Due.designFault(58, ahead + "!(".repeat(21) + "x" + ")".repeat(21) + ";");
        Due.designFault(37, ahead + "(".repeat(21));
        // Those that are closed again are open no longer.
        Due.designFaultOrNone(-1, ahead + "(x)" + "&(x)".repeat(30) + ";");
        Due.designFaultOrNone(-1, ahead + "(".repeat(20) + "x" + ")".repeat(20) + "&" + "(".repeat(20) + "x" + ")".repeat(20)
                + ";signal b=" + "(".repeat(20) + "x" + ")".repeat(20) + ";");
        Due.designFault(41, ahead + "(".repeat(20) + "x" + ")" + "&(" + "(".repeat(20));
    }

    private static void gateTooMany() {
        Due.designFaultOrNone(-1, SIXTY + ";");
        for (String sign : new String[] {"&", "|", "^"}) {
            Due.designFault(FULL.length(), FULL + sign + "x;");
            Due.designFault(FULL.length() + 2, FULL + "  " + sign + "  x;");
        }
        Due.designFaultOrNone(-1, FULL + ";");
        Due.designFaultOrNone(-1, FULL.replace("b=x", "b=!(!x)") + ";");
        // A ^ makes three: with 57 gates it may come, with 58 not; & and | may come up to 59.
        String less = "input x;signal a=x" + "^x".repeat(19);
        Due.designFaultOrNone(-1, less + ";signal b=x^x;");
        Due.designFaultOrNone(-1, less + ";signal b=x&x|x&x;");
        Due.designFault(less.length() + 13 + 11, less + ";signal b=x&x;signal c=x^x;");
        Due.designFault(less.length() + 15 + 11, less + ";signal b=x&x&x;signal c=x^x;");
        Due.designFault(less.length() + 17, less + ";signal b=x&x&x&x&x;");
        // The ^ of which the part behind has taken the room.
        Due.designFault(SIXTY.length() - 2, SIXTY + "&x;");
    }

    private static void asSoonAsEnded() {
        for (String then : new String[] {"", ";", "#", ")", "(", "x", "0", "!", "=", "input", "abcdefghi", " ", "2"}) {
            Due.designFault(FULL.length(), FULL + "&x " + then);
            Due.designFault(FULL.length(), FULL + "|x " + then);
            Due.designFault(FULL.length(), FULL + "^x " + then);
            Due.designFault(FULL.length(), FULL + "&(x)" + then);
            Due.designFault(FULL.length(), FULL + "|!!x " + then);
        }
        Due.designFault(FULL.length(), FULL + "&x&x");
        Due.designFault(FULL.length(), FULL + "|x|x");
        Due.designFault(FULL.length(), FULL + "^x^x");
        Due.designFault(FULL.length(), FULL + "&x|x");
        // As long as it has not ended, a fault behind it comes first.
        for (String sign : new String[] {"&", "|", "^"}) {
            Due.designFault(FULL.length() + 1, FULL + sign);
            Due.designFault(FULL.length() + 1, FULL + sign + "#");
            Due.designFault(FULL.length() + 1, FULL + sign + "y;");
            Due.designFault(FULL.length() + 1, FULL + sign + ";");
            Due.designFault(FULL.length() + 3, FULL + sign + "(x");
            Due.designFault(FULL.length() + 3, FULL + sign + "(x;");
            Due.designFault(FULL.length() + 2, FULL + sign + "!");
        }
        // What is behind | and ^ goes on with &.
        Due.designFault(FULL.length() + 3, FULL + "|x&");
        Due.designFault(FULL.length() + 3, FULL + "^x&#");
    }

    private static void within() {
        Due.designFault(FULL.length() + 2, FULL + "|x&x;");
        Due.designFault(FULL.length() + 2, FULL + "^x&x;");
        for (String outer : new String[] {"&", "|", "^"}) {
            for (String inner : new String[] {"&", "|", "^"}) {
                Due.designFault(FULL.length() + 3, FULL + outer + "(x" + inner + "x);");
                Due.designFault(FULL.length() + 6, FULL + outer + "(x" + inner + "(x" + inner + "x));");
            }
        }
        Due.designFault(FULL.length() + 2, FULL + "|x&x|x;");
    }
}
