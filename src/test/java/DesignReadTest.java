import java.util.ArrayList;
import java.util.List;
import java.util.Random;

/** Promises 16, 17, 18: design texts and numbers, right ones and changed ones, against the model. */
public final class DesignReadTest {
    private static final String[] NAMES = {"x", "y", "z", "a", "b", "go", "stop", "abcdefgh", "latchx"};
    private static final String[] PIECES = {"x", "y", "a", "nix", "input", "latch", "wire", "next", "signal", "0", "1",
        ";", "=", "!", "&", "|", "^", "(", ")", " ", "2", "#", "abcdefghi", "input q;", "latch r 0;", "signal a=x;"};
    private static final String[] NUMBER_PIECES = {"0", "1", "2", "3", "6", "7", "68", "69", "00006", "0006", "aag",
        " ", "x", "-", "12", "999", "61"};

    public static void main(String[] args) {
        AssertionBench bench = new AssertionBench();
        for (int seed = 0; seed < 6000; seed++) {
            Random random = new Random(seed);
            String text = designText(random);
            lookDesign(bench, text);
            lookDesign(bench, changed(random, text, false));
            lookDesign(bench, changed(random, changed(random, text, false), false));
            lookDesign(bench, text.substring(0, random.nextInt(text.length())));
            String numbers = DesignModel.ofText(text).numbers();
            if (numbers.length() <= 390) {
                lookNumbers(bench, numbers);
                lookNumbers(bench, changed(random, numbers, true));
                lookNumbers(bench, changed(random, changed(random, numbers, true), true));
                lookNumbers(bench, numbers.substring(0, random.nextInt(numbers.length())));
            }
        }
        for (int seed = 0; seed < 3000; seed++) {
            lookDesign(bench, crowded(new Random(seed)));
        }
        Check.done("DesignReadTest");
    }

    private static void lookDesign(AssertionBench bench, String text) {
        String before = Text.numbers(bench);
        try {
            DesignModel due = DesignModel.ofText(text);
            Check.same("[" + text + "]", AssertionBench.NONE, Text.readDesign(bench, text));
            Check.same("[" + text + "] as numbers", due.numbers(), Text.numbers(bench));
        } catch (DesignModel.Fault fault) {
            Check.same("[" + text + "]", fault.place, Text.readDesign(bench, text));
            Check.same("[" + text + "] changes nothing", before, Text.numbers(bench));
        }
    }

    private static void lookNumbers(AssertionBench bench, String text) {
        String before = Text.numbers(bench);
        try {
            DesignModel due = DesignModel.ofNumbers(text);
            Check.same("[" + text + "]", AssertionBench.NONE, Text.readNumbers(bench, text));
            Check.same("[" + text + "] as numbers", due.numbers(), Text.numbers(bench));
        } catch (DesignModel.Fault fault) {
            Check.same("[" + text + "]", fault.place, Text.readNumbers(bench, text));
            Check.same("[" + text + "] changes nothing", before, Text.numbers(bench));
        }
    }

    /** A text changed at one place, by what may stand in texts of its kind. */
    static String changed(Random random, String text, boolean asNumbers) {
        String[] pieces = asNumbers ? NUMBER_PIECES : PIECES;
        int at = random.nextInt(text.length() + 1);
        int out = Math.min(text.length(), at + random.nextInt(3));
        String in = random.nextInt(4) == 0 ? "" : pieces[random.nextInt(pieces.length)];
        String all = text.substring(0, at) + in + text.substring(out);
        return all.length() > 400 ? all.substring(0, 400) : all;
    }

    private static String blank(Random random) {
        return random.nextInt(8) == 0 ? " " : "";
    }

    static String designText(Random random) {
        List<String> names = new ArrayList<>();
        List<String> free = new ArrayList<>(List.of(NAMES));
        StringBuilder out = new StringBuilder();
        for (int k = 1 + random.nextInt(3); k > 0; k--) {
            names.add(free.remove(random.nextInt(free.size())));
            out.append("input ").append(names.get(names.size() - 1)).append(blank(random)).append(";");
        }
        int inputs = names.size();
        for (int k = random.nextInt(6); k > 0; k--) {
            names.add(free.remove(random.nextInt(free.size())));
            out.append("latch ").append(names.get(names.size() - 1)).append(" ").append(random.nextInt(2)).append(";");
        }
        int latches = names.size() - inputs;
        free.addAll(List.of("p", "q", "r", "s", "t"));
        for (int k = random.nextInt(6); k > 0; k--) {
            String meaning = blank(random) + "=" + blank(random) + expression(random, names, 3) + blank(random) + ";";
            int which = random.nextInt(3);
            String statement;
            String told = "";
            if (which == 0 && latches > 0) {
                statement = "next " + names.get(inputs + random.nextInt(latches)) + meaning;
            } else if (which == 1) {
                told = free.get(random.nextInt(free.size()));
                statement = "wire " + told + meaning;
            } else {
                statement = "signal " + (char) ('a' + random.nextInt(6)) + meaning;
            }
            if (out.length() + statement.length() > 390) {
                break;
            }
            out.append(statement).append(blank(random));
            if (!told.isEmpty()) {
                free.remove(told);
                names.add(told);
            }
        }
        String text = out.toString();
        try {
            DesignModel.ofText(text);
            return text;
        } catch (DesignModel.Fault fault) {
            return text.substring(0, text.indexOf(';') + 1);
        }
    }

    /** Some sixty gates, so that one too many is met at all kinds of places. */
    private static String crowded(Random random) {
        StringBuilder out = new StringBuilder("input x;signal a=");
        int open = 0;
        for (int gates = 50 + random.nextInt(20); gates > 0;) {
            boolean opens = random.nextInt(6) == 0;
            out.append(opens ? "(" : "").append("x");
            open += opens ? 1 : 0;
            boolean closes = open > 0 && random.nextInt(4) == 0;
            out.append(closes ? ")" : "");
            open -= closes ? 1 : 0;
            int which = random.nextInt(3);
            out.append("&|^".charAt(which));
            gates -= which == 2 ? 3 : 1;
        }
        out.append("x").append(")".repeat(random.nextInt(4) == 0 ? open / 2 : open));
        out.append(new String[] {";", "#", ")", "", "x;", ";signal b=x&x;", ";signal b=x;"}[random.nextInt(7)]);
        return out.toString();
    }

    private static String expression(Random random, List<String> names, int depth) {
        String[] signs = {"|", "^", "&", "&", "|"};
        StringBuilder out = new StringBuilder();
        int factors = 1 + random.nextInt(4);
        for (int k = 0; k < factors; k++) {
            out.append(k == 0 ? "" : blank(random) + signs[random.nextInt(signs.length)] + blank(random));
            out.append("!".repeat(random.nextInt(3)));
            if (depth > 0 && random.nextInt(3) == 0) {
                out.append("(").append(expression(random, names, depth - 1)).append(")");
            } else {
                int which = random.nextInt(names.size() + 2);
                out.append(which < 2 ? String.valueOf(which) : names.get(which - 2));
            }
        }
        return out.toString();
    }
}
