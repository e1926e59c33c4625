/** Terms 5: designs as numbers, with their faults. */
final class NumbersEdges {
    private static final String LEAST = "aag 1 1 0 6 0 2 2 2 2 2 2 2";

    private NumbersEdges() {
    }

    static void run() {
        Edge.in("Term 5");
        Edge.says("A design as NUMBERS is a text: the three signs aag (one token, whatever stands behind it), and numbers",
                NumbersEdges::threeSigns);
        Edge.says("with blanks (one at least between two numbers;", NumbersEdges::blanks);
        Edge.says("of one to four digits as it is read, zeros ahead counted;", NumbersEdges::digits);
        Edge.says("without needless zeros, and with one blank, as it is written)", NumbersEdges::asWritten);
        Edge.says("how many values there are but false, how many inputs, latches, 6, how many gates; each input's literal; "
                + "of each latch its literal, what it is next, and 1 or 0 for what it is at first; the literals of "
                + "signals a .. f; of each gate its literal and its two.", NumbersEdges::inOrder);
        Edge.says("Its FAULT is the first place of a token (or sign that begins none, or number that is too long) that isn't "
                + "as it must be", NumbersEdges::firstPlace);
        Edge.says("the first number is 1 .. 68, inputs 1 .. 3, latches 0 .. 5,", NumbersEdges::counts);
        Edge.says("gates at most 60 and the first number less those", NumbersEdges::gates);
        Edge.says("(if there would be more, or fewer than none, the fault is at the fifth number, whatever it is);",
                NumbersEdges::fifthNumber);
        Edge.says("inputs, latches, gates have the literals of their order;", NumbersEdges::literalsOfOrder);
        Edge.says("next ones and signals are literals that there are,", NumbersEdges::literalsThatAre);
        Edge.says("a gate's are below its own;", NumbersEdges::belowItsOwn);
        Edge.says("then the end.", NumbersEdges::theEnd);
    }

    /** That a text is read, and what it is as written. */
    private static void due(String written, String text) {
        AssertionBench bench = new AssertionBench();
        bench.design(2, 2);
        Check.same("[" + text + "]", -1, Text.readNumbers(bench, text));
        Check.same("[" + text + "]", written, Text.numbers(bench));
    }

    private static void threeSigns() {
        due(LEAST, LEAST);
        due(LEAST, "aag1 1 0 6 0 2 2 2 2 2 2 2");
        due(LEAST, "aag0001 1 0 6 0 2 2 2 2 2 2 2");
        Due.numbersFault(0, "");
        Due.numbersFault(2, "  ");
        Due.numbersFault(0, "1 1 0 6 0 2 2 2 2 2 2 2");
        Due.numbersFault(0, "aa");
        Due.numbersFault(0, "aa g 1 1 0 6 0 2 2 2 2 2 2 2");
        Due.numbersFault(0, "AAG 1 1 0 6 0 2 2 2 2 2 2 2");
        Due.numbersFault(0, "gaa 1 1 0 6 0 2 2 2 2 2 2 2");
        Due.numbersFault(0, "x" + LEAST);
        Due.numbersFault(0, "bag 1 1 0 6 0 2 2 2 2 2 2 2");
        Due.numbersFault(0, "abg 1 1 0 6 0 2 2 2 2 2 2 2");
        Due.numbersFault(0, "aaf 1 1 0 6 0 2 2 2 2 2 2 2");
        Due.numbersFault(3, "aag");
        Due.numbersFault(3, "aagg 1 1 0 6 0 2 2 2 2 2 2 2");
        Due.numbersFault(3, "aagx");
        Due.numbersFault(3, "aagaag 1 1 0 6 0 2 2 2 2 2 2 2");
        Due.numbersFault(4, "aag aag 1 1 0 6 0 2 2 2 2 2 2 2");
        Due.numbersFault(3, "aag00001 1 0 6 0 2 2 2 2 2 2 2");
    }

    private static void blanks() {
        due(LEAST, "  aag  1   1 0    6 0 2 2 2  2 2 2 2   ");
        due("aag 2 1 1 6 0 2 4 4 0 2 2 2 2 2 2", "aag 2 1 1 6 0 2 4 4 0 2 2 2 2 2 2");
        // Without a blank between them two are one.
        Due.numbersFault(6, "aag 1 10 6 0 2 2 2 2 2 2 2");
        Due.numbersFault(8, "aag 1 1 06 0 2 2 2 2 2 2 2");
        Due.numbersFault(4, "aag 110602");
        Due.numbersFault(5, "aag 1,1 0 6 0 2 2 2 2 2 2 2");
    }

    private static void digits() {
        due(LEAST, "aag 01 1 0 6 0 2 2 2 2 2 2 2");
        due(LEAST, "aag 0001 0001 0000 0006 0000 0002 0002 0002 02 002 0002 2");
        Due.numbersFault(4, "aag 00001 1 0 6 0 2 2 2 2 2 2 2");
        Due.numbersFault(4, "aag 12345");
        Due.numbersFault(6, "aag 1 00001 0 6 0 2 2 2 2 2 2 2");
        Due.numbersFault(12, "aag 1 1 0 6 00000 2 2 2 2 2 2 2");
        Due.numbersFault(26, "aag 1 1 0 6 0 2 2 2 2 2 2 00002");
        Due.numbersFault(4, "aag 4294967297 1 0 6 0 2 2 2 2 2 2 2");
        Due.numbersFault(26, "aag 1 1 0 6 0 2 2 2 2 2 2 4294967298");
        Due.numbersFault(4, "aag -1 1 0 6 0 2 2 2 2 2 2 2");
        Due.numbersFault(4, "aag 9999");
        // The signs next to the digits are none.
        Due.numbersFault(4, "aag / 1 0 6 0 2 2 2 2 2 2 2");
        Due.numbersFault(4, "aag : 1 0 6 0 2 2 2 2 2 2 2");
        Due.numbersFault(5, "aag 1/ 1 0 6 0 2 2 2 2 2 2 2");
        Due.numbersFault(8, "aag 1 1 / 6 0 2 2 2 2 2 2 2");
        Due.numbersFault(28, "aag 11 1 0 6 10 2 2 2 2 2 2 : 4 0 0");
    }

    private static void asWritten() {
        AssertionBench bench = new AssertionBench();
        String zeros = " aag0002 01  01 06 00 02 0004 05 001 0 1 02 3 4 0005 ";
        Check.same("read with zeros and blanks", -1, Text.readNumbers(bench, zeros));
        Check.same("written without", "aag 2 1 1 6 0 2 4 5 1 0 1 2 3 4 5", Text.numbers(bench));
        bench.design(1, 0);
        for (int k = 0; k < 60; k++) {
            bench.gate(0, 1);
        }
        String text = Text.numbers(bench);
        Check.holds("ones and tens", text.startsWith("aag 61 1 0 6 60 2 2 2 2 2 2 2 4 0 1 6 0 1 8 0 1 10 0 1 12 0 1"));
        Check.holds("tens and hundreds", text.contains(" 96 0 1 98 0 1 100 0 1 102 0 1"));
        Check.holds("without a blank at the end", text.endsWith(" 120 0 1 122 0 1"));
    }

    private static void inOrder() {
        String text = "aag 6 2 2 6 2 2 4 6 13 1 8 3 0 0 1 2 5 7 12 10 2 9 12 10 11";
        due(text, text);
        AssertionBench bench = new AssertionBench();
        Text.readNumbers(bench, text);
        int[] has = {2, 2, 2, 0, 1, 2, 5, 7, 12};
        for (int what = 0; what < has.length; what++) {
            Check.same("has " + what, has[what], bench.has(what));
        }
        Text.read(bench, 0, "next 0");
        Check.same("two cycles", 2, bench.search(0, 2));
        Check.same("latches at first", 1, bench.run(0, 2));
        Check.same("latches then: the opposites of the second gate and of the first input", 1 + 2, bench.run(1, 2));
    }

    private static void firstPlace() {
        Due.numbersFault(4, "aag x 1 0 6 0");
        Due.numbersFault(4, "aag -1 1 0 6 0");
        Due.numbersFault(5, "aag 1.0 1 0 6 0");
        Due.numbersFault(6, "aag 1 9 9 9 9 #");
        Due.numbersFault(6, "aag 1 12345 x");
        Due.numbersFault(4, "aag aag");
        Due.numbersFault(27, LEAST + ";");
        Due.numbersFault(9, "aag 1 1 0");
        Due.numbersFault(12, "aag 1 1 0   ");
    }

    private static void counts() {
        Due.numbersFault(4, "aag 0 1 0 6 0 2 2 2 2 2 2 2");
        Due.numbersFault(4, "aag 69 3 5 6 60");
        Due.numbersFault(15, "aag 68 3 5 6 60");
        Due.numbersFault(6, "aag 1 0 0 6 1 2 2 2 2 2 2 2");
        Due.numbersFault(6, "aag 5 4 0 6 1 2 4 6 8 2 2 2 2 2 2");
        due("aag 3 3 0 6 0 2 4 6 2 2 2 2 2 2", "aag 3 3 0 6 0 2 4 6 2 2 2 2 2 2");
        due("aag 6 1 5 6 0 2 4 4 0 6 6 0 8 8 0 10 10 0 12 12 0 2 2 2 2 2 2",
                "aag 6 1 5 6 0 2 4 4 0 6 6 0 8 8 0 10 10 0 12 12 0 2 2 2 2 2 2");
        Due.numbersFault(8, "aag 7 1 6 6 0 2 4 4 0 6 6 0 8 8 0 10 10 0 12 12 0 14 14 0 2 2 2 2 2 2");
        Due.numbersFault(10, "aag 1 1 0 5 0 2 2 2 2 2 2");
        Due.numbersFault(10, "aag 1 1 0 7 0 2 2 2 2 2 2 2 2");
    }

    private static void gates() {
        due("aag 2 1 0 6 1 2 2 2 2 2 2 2 4 0 0", "aag 2 1 0 6 1 2 2 2 2 2 2 2 4 0 0");
        Due.numbersFault(12, "aag 2 1 0 6 0 2 2 2 2 2 2 2");
        Due.numbersFault(12, "aag 2 1 0 6 2 2 2 2 2 2 2 2 4 0 0 6 0 0");
        Due.numbersFault(12, "aag 1 1 0 6 1 2 2 2 2 2 2 2 4 0 0");
        // As many as can be written with four hundred signs; sixty are right as a number.
        StringBuilder most = new StringBuilder("aag 53 1 0 6 52 2 0 0 0 0 0 0");
        for (int k = 0; k < 52; k++) {
            most.append(' ').append(4 + 2 * k).append(" 0 0");
        }
        Check.same("signs", 394, most.length());
        due(most.toString(), most.toString());
        Due.numbersFault(15, "aag 61 1 0 6 60");
        Due.numbersFault(15, "aag 68 3 5 6 60");
    }

    private static void fifthNumber() {
        for (String fifth : new String[] {"61", "60", "0", "1", "67", "9999", "x", "#", "00000", "-1", "aag", ""}) {
            Due.numbersFault(13, "aag 62 1 0 6 " + fifth);
            Due.numbersFault(13, "aag 68 3 4 6 " + fifth);
            Due.numbersFault(fifth.isEmpty() ? 14 : 13, "aag 68 1 0 6 " + fifth + " 2 2 2 2 2 2 2");
            Due.numbersFault(12, "aag 1 2 0 6 " + fifth);
            Due.numbersFault(12, "aag 1 1 1 6 " + fifth);
            Due.numbersFault(12, "aag 7 3 5 6 " + fifth);
            Due.numbersFault(12, "aag 1 3 5 6 " + fifth);
        }
        // What is wrong ahead of it comes first.
        Due.numbersFault(10, "aag 1 2 0 5 0");
        Due.numbersFault(11, "aag 62 1 0 7 61");
        Due.numbersFault(8, "aag 1 2 6 6 0");
    }

    private static void literalsOfOrder() {
        Due.numbersFault(14, "aag 1 1 0 6 0 3 2 2 2 2 2 2");
        Due.numbersFault(14, "aag 1 1 0 6 0 0 2 2 2 2 2 2");
        Due.numbersFault(14, "aag 2 2 0 6 0 4 2 2 2 2 2 2 2");
        Due.numbersFault(16, "aag 2 2 0 6 0 2 2 2 2 2 2 2 2");
        Due.numbersFault(16, "aag 2 1 1 6 0 2 5 4 0 2 2 2 2 2 2");
        Due.numbersFault(16, "aag 2 1 1 6 0 2 2 4 0 2 2 2 2 2 2");
        Due.numbersFault(16, "aag 2 1 1 6 0 2 6 4 0 2 2 2 2 2 2");
        Due.numbersFault(28, "aag 2 1 0 6 1 2 2 2 2 2 2 2 5 0 0");
        Due.numbersFault(28, "aag 2 1 0 6 1 2 2 2 2 2 2 2 2 0 0");
        Due.numbersFault(28, "aag 2 1 0 6 1 2 2 2 2 2 2 2 6 0 0");
        Due.numbersFault(34, "aag 3 1 0 6 2 2 2 2 2 2 2 2 4 0 0 4 0 0");
    }

    private static void literalsThatAre() {
        due("aag 2 1 1 6 0 2 4 5 0 2 2 2 2 2 2", "aag 2 1 1 6 0 2 4 5 0 2 2 2 2 2 2");
        due("aag 2 1 1 6 0 2 4 0 1 2 2 2 2 2 2", "aag 2 1 1 6 0 2 4 0 1 2 2 2 2 2 2");
        Due.numbersFault(18, "aag 2 1 1 6 0 2 4 6 0 2 2 2 2 2 2");
        Due.numbersFault(20, "aag 2 1 1 6 0 2 4 5 2 2 2 2 2 2 2");
        due("aag 3 1 1 6 1 2 4 7 0 7 7 7 7 7 7 6 0 0", "aag 3 1 1 6 1 2 4 7 0 7 7 7 7 7 7 6 0 0");
        Due.numbersFault(18, "aag 3 1 1 6 1 2 4 8 0 7 7 7 7 7 7 6 0 0");
        for (int k = 0; k < 6; k++) {
            String right = "aag 1 1 0 6 0 2" + " 3".repeat(6);
            due(right, right);
            Due.numbersFault(16 + 2 * k, "aag 1 1 0 6 0 2" + " 3".repeat(k) + " 4" + " 3".repeat(5 - k));
        }
    }

    private static void belowItsOwn() {
        due("aag 2 1 0 6 1 2 2 2 2 2 2 2 4 3 3", "aag 2 1 0 6 1 2 2 2 2 2 2 2 4 3 3");
        Due.numbersFault(30, "aag 2 1 0 6 1 2 2 2 2 2 2 2 4 4 3");
        Due.numbersFault(32, "aag 2 1 0 6 1 2 2 2 2 2 2 2 4 3 4");
        Due.numbersFault(30, "aag 2 1 0 6 1 2 2 2 2 2 2 2 4 5 3");
        due("aag 3 1 0 6 2 2 2 2 2 2 2 2 4 3 3 6 5 4", "aag 3 1 0 6 2 2 2 2 2 2 2 2 4 3 3 6 5 4");
        Due.numbersFault(30, "aag 3 1 0 6 2 2 2 2 2 2 2 2 4 6 3 6 5 4");
        Due.numbersFault(36, "aag 3 1 0 6 2 2 2 2 2 2 2 2 4 3 3 6 6 4");
        Due.numbersFault(38, "aag 3 1 0 6 2 2 2 2 2 2 2 2 4 3 3 6 5 7");
    }

    private static void theEnd() {
        due(LEAST, LEAST + "   ");
        Due.numbersFault(25, "aag 1 1 0 6 0 2 2 2 2 2 2");
        Due.numbersFault(26, "aag 1 1 0 6 0 2 2 2 2 2 2 ");
        Due.numbersFault(28, LEAST + " 2");
        Due.numbersFault(28, LEAST + " 0");
        Due.numbersFault(28, LEAST + " 12345");
        Due.numbersFault(28, LEAST + " aag");
        Due.numbersFault(27, LEAST + "#");
        Due.numbersFault(26, "aag 1 1 0 6 0 2 2 2 2 2 2 22");
        Due.numbersFault(34, "aag 2 1 0 6 1 2 2 2 2 2 2 2 4 3 3 4");
    }
}
