/** Promises 16 to 23: designs that are read and built, told by hand; DesignReadTest has many more. */
public final class DesignTest {
    public static void main(String[] args) {
        readDesign();
        designFaults();
        readNumbers();
        numberFaults();
        numbers();
        has();
        design();
        gate();
        latch();
        signal();
        noRunThen();
        Check.done("DesignTest");
    }

    private static void readDesign() {
        Due.numbers("aag 1 1 0 6 0 2 2 2 2 2 2 2", "input x;");
        Due.numbers("aag 3 3 0 6 0 2 4 6 2 2 2 2 2 2", "input x;input y;input z;");
        Due.numbers("aag 3 1 2 6 0 2 4 4 1 6 6 0 2 2 2 2 2 2", " input x ; latch p 1 ; latch q 0 ; ");
        Due.numbers("aag 3 2 0 6 1 2 4 6 2 2 2 2 2 6 2 4", "input x;input y;signal a=x&y;");
        Due.numbers("aag 3 2 0 6 1 2 4 7 2 2 2 2 2 6 3 5", "input x;input y;signal a=x|y;");
        Due.numbers("aag 5 2 0 6 3 2 4 2 11 2 2 2 2 6 2 5 8 3 4 10 7 9", "input x;input y;signal b=x^y;");
        Due.numbers("aag 2 1 1 6 0 2 4 3 0 4 5 0 1 2 2", "input x;latch q 0;next q=!x;signal a=q;signal b=!q;signal c=0;signal d=1;");
        Due.numbers("aag 2 1 1 6 0 2 4 0 0 3 2 2 2 2 2", "input x;latch q 0;next q=1;next q=0;signal a=x;signal a=!!!x;");
        // Gates in the order in which their second literals end, from left to right, | and ^ alike.
        Due.numbers("aag 6 2 0 6 4 2 4 13 2 2 2 2 2 6 2 4 8 3 7 10 2 2 12 8 11", "input x;input y;signal a=x|x&y|x&x;");
        Due.numbers("aag 3 2 0 6 1 2 4 6 7 2 2 2 2 6 2 4", "input x;input y;wire w=x&y;signal a=w;signal b=!w;");
        Due.numbers("aag 5 3 0 6 2 2 4 6 10 2 2 2 2 2 8 4 6 10 2 8", "input x;input y;input z;signal a=x&(y&z);");
        // A signal's letter may be a name, and names may be such words as the signals' statements have.
        Due.numbers("aag 1 1 0 6 0 2 3 2 2 2 2 2", "input a;signal a=!a;");
        Due.numbers("aag 2 1 0 6 1 2 2 2 2 2 2 5 4 0 1", "input abcdefgh;wire f=0&1;signal f=!f;");
    }

    private static void designFaults() {
        Due.designFault(0, "");
        Due.designFault(0, "latch q 0;");
        Due.designFault(8, "input x ");
        Due.designFault(6, "input input;");
        Due.designFault(6, "input 0;");
        Due.designFault(6, "input abcdefghi;");
        Due.designFault(14, "input x;input x;");
        Due.designFault(24, "input x;input y;input z;input u;");
        Due.designFault(16, "input x;latch p 2;");
        Due.designFault(17, "input x;latch p 01;");
        Due.designFault(19, "input x;latch p 0; input y;");
        Due.designFault(63, "input x; latch p 0;latch q 0;latch r 0;latch s 0;latch t 0;    latch u 0;");
        Due.designFault(8, "input x;signl a=x;");
        Due.designFault(15, "input x;signal g=x;");
        Due.designFault(15, "input x;signal aa=x;");
        Due.designFault(13, "input x;next x=x;");
        Due.designFault(13, "input x;next q=x;");
        Due.designFault(13, "input x;wire x=x;");
        Due.designFault(13, "input x;wire next=x;");
        Due.designFault(15, "input x;wire w=w;");
        Due.designFault(22, "input x;wire w=0;wire w=1;");
        Due.designFault(17, "input x;signal a=y;");
        Due.designFault(18, "input x;signal a=x!x;");
        Due.designFault(18, "input x;signal a=x");
        Due.designFault(18, "input x;signal a=x)");
        Due.designFault(20, "input x;signal a=x &");
        Due.designFault(17, "input x;signal a=+x;");
        Due.designFault(37, "input x;signal a=" + "(".repeat(21) + "x" + ")".repeat(21) + ";");
        String most = "input x;signal a=x" + "^x".repeat(20);
        Due.designFault(most.length(), most);
        Due.designFault(most.length(), most + "^x;");
        Due.designFault(most.length(), most + "|x;");
        Due.designFault(most.length(), most + "|x#");
        Due.designFault(most.length(), most + "|x");
        Due.designFault(most.length() + 1, most + "^#");
        // Of one within another that within.
        Due.designFault(most.length() + 3, most + "|(x&x);");
        // 58 gates leave room for no ^, which takes three.
        String near = "input x;signal a=x" + "^x".repeat(19) + "&x;signal b=x";
        Due.designFault(near.length(), near + "^x;");
        AssertionBench bench = new AssertionBench();
        Check.same("twenty ( may be open", -1,
                Text.readDesign(bench, "input x;signal a=" + "(".repeat(20) + "x" + ")".repeat(20) + ";"));
        Check.same("sixty gates may be", -1, Text.readDesign(bench, most + ";"));
        Check.same("sixty gates", 60, bench.has(2));
    }

    private static void readNumbers() {
        String[] texts = {"aag 1 1 0 6 0 2 2 2 2 2 2 2", "aag 8 3 5 6 0 2 4 6 8 17 0 10 0 1 12 1 1 14 2 0 16 16 1 0 1 2 3 16 17",
            "aag 3 1 1 6 1 2 4 6 1 6 7 0 1 2 4 6 4 3"};
        for (String text : texts) {
            AssertionBench bench = new AssertionBench();
            Check.same(text, -1, Text.readNumbers(bench, text));
            Check.same(text, text, Text.numbers(bench));
            Check.same("the text is empty then", 0, bench.put(0));
            Check.same(text, -1, Text.readNumbers(bench, "  " + text.replace("aag ", "aag") + "  "));
            Check.same(text, text, Text.numbers(bench));
            Check.same(text, -1, Text.readNumbers(bench, text.replace(" 6 ", "  0006  ")));
            Check.same(text, text, Text.numbers(bench));
        }
    }

    private static void numberFaults() {
        Due.numbersFault(0, "");
        Due.numbersFault(0, "aa");
        Due.numbersFault(0, "1 1 0 6 0");
        Due.numbersFault(3, "aag");
        Due.numbersFault(3, "aagx");
        Due.numbersFault(3, "aagaag");
        Due.numbersFault(4, "aag 0 1 0 6 0 2 2 2 2 2 2 2");
        Due.numbersFault(4, "aag 69 3 5 6 61");
        Due.numbersFault(4, "aag 00001 1 0 6 0 2 2 2 2 2 2 2");
        Due.numbersFault(6, "aag 1 0 0 6 1 2 2 2 2 2 2 2");
        Due.numbersFault(6, "aag 5 4 0 6 1 2 2 2 2 2 2 2");
        Due.numbersFault(8, "aag 9 1 6 6 2 2 2 2 2 2 2 2");
        Due.numbersFault(10, "aag 1 1 0 5 0 2 2 2 2 2 2 2");
        Due.numbersFault(12, "aag 1 1 0 6 1 2 2 2 2 2 2 2");
        Due.numbersFault(12, "aag 1 2 0 6 0 2 4 2 2 2 2 2 2");
        Due.numbersFault(13, "aag 68 1 0 6 67 2");
        Due.numbersFault(13, "aag 68 1 0 6 60 2");
        Due.numbersFault(13, "aag 62 1 0 6 x");
        Due.numbersFault(12, "aag 62 1 0 6");
        Due.numbersFault(14, "aag 1 1 0 6 0 3 2 2 2 2 2 2");
        Due.numbersFault(14, "aag 1 1 0 6 0 -2 2 2 2 2 2");
        Due.numbersFault(16, "aag 1 1 0 6 0 2 4 2 2 2 2 2");
        Due.numbersFault(25, "aag 1 1 0 6 0 2 2 2 2 2 2");
        Due.numbersFault(28, "aag 1 1 0 6 0 2 2 2 2 2 2 2 2");
        Due.numbersFault(16, "aag 2 1 1 6 0 2 6 4 0 2 2 2 2 2 2");
        Due.numbersFault(18, "aag 2 1 1 6 0 2 4 6 0 2 2 2 2 2 2");
        Due.numbersFault(20, "aag 2 1 1 6 0 2 4 5 2 2 2 2 2 2 2");
        Due.numbersFault(28, "aag 2 1 0 6 1 2 2 2 2 2 2 2 6 2 2");
        Due.numbersFault(30, "aag 2 1 0 6 1 2 2 2 2 2 2 2 4 4 2");
        Due.numbersFault(32, "aag 2 1 0 6 1 2 2 2 2 2 2 2 4 2 4");
    }

    private static void numbers() {
        AssertionBench bench = new AssertionBench();
        Check.same("sign 0", (int) 'a', bench.number(0));
        Check.same("sign 2", (int) 'g', bench.number(2));
        Check.same("sign 3", (int) ' ', bench.number(3));
        Check.same("the last sign", (int) '2', bench.number(26));
        Check.same("behind the end", AssertionBench.NONE, bench.number(27));
        Check.same("far behind the end", AssertionBench.NONE, bench.number(Integer.MAX_VALUE));
        Check.fails("sign -1", IndexOutOfBoundsException.class, () -> bench.number(-1));
        Check.fails("far below", IndexOutOfBoundsException.class, () -> bench.number(Integer.MIN_VALUE));
        bench.design(3, 5);
        bench.latch(4, 16, true);
        for (int k = 0; k < 60; k++) {
            bench.gate(0, 17 + 2 * k);
        }
        bench.signal(5, 137);
        String text = Text.numbers(bench);
        Check.holds(text, text.startsWith("aag 68 3 5 6 60 2 4 6 8 8 0 10 10 0 12 12 0 14 14 0 16 16 1 2 2 2 2 2 137 18 0 17 20 0 19"));
        Check.holds(text, text.endsWith(" 136 0 135"));
    }

    private static void has() {
        AssertionBench bench = new AssertionBench();
        Text.readDesign(bench, "input x;input y;latch p 0;signal a=x&y;signal f=!p;signal c=0;");
        int[] due = {2, 1, 1, 8, 2, 0, 2, 2, 7};
        for (int what = 0; what < due.length; what++) {
            Check.same("has " + what, due[what], bench.has(what));
        }
        for (int what : new int[] {-1, 9, Integer.MAX_VALUE, Integer.MIN_VALUE}) {
            Check.fails("has " + what, IllegalArgumentException.class, () -> bench.has(what));
        }
    }

    private static void design() {
        AssertionBench bench = new AssertionBench();
        Text.readDesign(bench, "input x;latch p 1;next p=!p;signal a=x&p;");
        String before = Text.numbers(bench);
        int[][] wrong = {{0, 0}, {4, 0}, {1, -1}, {1, 6}, {-1, 2}, {Integer.MAX_VALUE, 0}, {1, Integer.MIN_VALUE}};
        for (int[] w : wrong) {
            Check.refuses("design", IllegalArgumentException.class, () -> bench.design(w[0], w[1]));
        }
        Check.same("nothing has changed", before, Text.numbers(bench));
        bench.design(1, 1);
        Check.same("anew", "aag 2 1 1 6 0 2 4 4 0 2 2 2 2 2 2", Text.numbers(bench));
        bench.design(3, 5);
        Check.same("the greatest", "aag 8 3 5 6 0 2 4 6 8 8 0 10 10 0 12 12 0 14 14 0 16 16 0 2 2 2 2 2 2", Text.numbers(bench));
        bench.design(2, 0);
        Check.same("no latches", "aag 2 2 0 6 0 2 4 2 2 2 2 2 2", Text.numbers(bench));
    }

    private static void gate() {
        AssertionBench bench = new AssertionBench();
        bench.design(1, 1);
        Check.same("the first gate", 3, bench.gate(2, 5));
        Check.same("of the first gate", 4, bench.gate(6, 7));
        String before = Text.numbers(bench);
        Check.same("as numbers", "aag 4 1 1 6 2 2 4 4 0 2 2 2 2 2 2 6 2 5 8 6 7", before);
        int[][] wrong = {{10, 0}, {0, 10}, {-1, 0}, {0, -1}, {Integer.MAX_VALUE, 2}, {2, Integer.MIN_VALUE}};
        for (int[] w : wrong) {
            Check.fails("gate", IllegalArgumentException.class, () -> bench.gate(w[0], w[1]));
        }
        Check.same("nothing has changed", before, Text.numbers(bench));
        for (int k = 2; k < 60; k++) {
            Check.same("gate " + k, 3 + k, bench.gate(1, 1));
        }
        Check.fails("a 61st", UnsupportedOperationException.class, () -> bench.gate(0, 0));
        Check.fails("a 61st of its own", IllegalArgumentException.class, () -> bench.gate(126, 0));
        Check.fails("a 61st of the last", UnsupportedOperationException.class, () -> bench.gate(125, 124));
        Check.same("sixty", 60, bench.has(2));
    }

    private static void latch() {
        AssertionBench bench = new AssertionBench();
        Check.refuses("no latches", IllegalArgumentException.class, () -> bench.latch(0, 2, true));
        bench.design(1, 2);
        bench.latch(1, 3, true);
        bench.latch(0, 7, false);
        String before = Text.numbers(bench);
        Check.same("as numbers", "aag 3 1 2 6 0 2 4 7 0 6 3 1 2 2 2 2 2 2", before);
        int[][] wrong = {{2, 0}, {-1, 0}, {0, 8}, {0, -1}, {Integer.MAX_VALUE, 0}, {0, Integer.MAX_VALUE}};
        for (int[] w : wrong) {
            Check.refuses("latch", IllegalArgumentException.class, () -> bench.latch(w[0], w[1], true));
        }
        Check.same("nothing has changed", before, Text.numbers(bench));
        bench.gate(2, 2);
        bench.latch(1, 9, false);
        Check.same("of a gate", "aag 4 1 2 6 1 2 4 7 0 6 9 0 2 2 2 2 2 2 8 2 2", Text.numbers(bench));
    }

    private static void signal() {
        AssertionBench bench = new AssertionBench();
        bench.signal(0, 3);
        bench.signal(5, 0);
        bench.signal(3, 1);
        String before = Text.numbers(bench);
        Check.same("as numbers", "aag 1 1 0 6 0 2 3 2 2 1 2 0", before);
        int[][] wrong = {{6, 0}, {-1, 0}, {0, 4}, {0, -1}, {Integer.MIN_VALUE, 0}, {0, Integer.MAX_VALUE}};
        for (int[] w : wrong) {
            Check.refuses("signal", IllegalArgumentException.class, () -> bench.signal(w[0], w[1]));
        }
        Check.same("nothing has changed", before, Text.numbers(bench));
        bench.gate(3, 3);
        bench.signal(0, 5);
        Check.same("of a gate", 5, bench.has(3));
    }

    private static AssertionBench found() {
        AssertionBench bench = Text.bench("a");
        bench.design(1, 1);
        Check.same("search", 1, bench.search(0, 3));
        bench.differ(1, 1);
        bench.letter(0);
        return bench;
    }

    /** What changes the design leaves no run; what throws or finds a fault leaves it; words and witnesses stay. */
    private static void noRunThen() {
        for (int call = 0; call < 12; call++) {
            AssertionBench bench = found();
            boolean stays = call >= 6;
            switch (call) {
                case 0 -> bench.design(1, 1);
                case 1 -> bench.gate(0, 0);
                case 2 -> bench.latch(0, 4, false);
                case 3 -> bench.signal(0, 2);
                case 4 -> Text.readDesign(bench, "input x;");
                case 5 -> Text.readNumbers(bench, "aag 1 1 0 6 0 2 2 2 2 2 2 2");
                case 6 -> Check.refuses("design", IllegalArgumentException.class, () -> bench.design(0, 0));
                case 7 -> Check.fails("gate", IllegalArgumentException.class, () -> bench.gate(0, 6));
                case 8 -> Check.refuses("latch", IllegalArgumentException.class, () -> bench.latch(1, 0, true));
                case 9 -> Check.refuses("signal", IllegalArgumentException.class, () -> bench.signal(0, 6));
                case 10 -> Text.readDesign(bench, "input x");
                default -> Text.readNumbers(bench, "aag 1");
            }
            if (stays) {
                Check.same("the run stays with call " + call, 0, bench.run(0, 0));
            } else {
                Check.fails("no run with call " + call, IllegalStateException.class, () -> bench.run(0, 0));
            }
            Check.same("the witness stays", 0, bench.witness(0));
            Check.same("the word stays", 1, bench.word(0));
        }
    }
}
