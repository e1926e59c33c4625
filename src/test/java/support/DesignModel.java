import java.util.ArrayList;
import java.util.LinkedHashMap;
import java.util.List;
import java.util.Map;
import java.util.regex.Matcher;
import java.util.regex.Pattern;

/** A design in plain lists; design texts and numbers are read by throwing the place of their fault. */
final class DesignModel {
    int inputs;
    int latches;
    final List<int[]> gates = new ArrayList<>();
    final int[] nexts = new int[5];
    final int[] firsts = new int[5];
    final int[] signals = new int[6];

    static final class Fault extends RuntimeException {
        private static final long serialVersionUID = 1;
        final int place;

        Fault(int place) {
            this.place = place;
        }
    }

    private record Token(String text, int place, boolean bad) {
    }

    DesignModel(int inputs, int latches) {
        this.inputs = inputs;
        this.latches = latches;
        for (int k = 0; k < latches; k++) {
            nexts[k] = 2 * (1 + inputs + k);
        }
        java.util.Arrays.fill(signals, 2);
    }

    int gate(int one, int two) {
        gates.add(new int[] {one, two});
        return 2 * (inputs + latches + gates.size());
    }

    String numbers() {
        StringBuilder out = new StringBuilder("aag");
        List<Integer> all = new ArrayList<>(List.of(inputs + latches + gates.size(), inputs, latches, 6, gates.size()));
        for (int k = 1; k <= inputs; k++) {
            all.add(2 * k);
        }
        for (int k = 0; k < latches; k++) {
            all.addAll(List.of(2 * (1 + inputs + k), nexts[k], firsts[k]));
        }
        for (int literal : signals) {
            all.add(literal);
        }
        for (int k = 0; k < gates.size(); k++) {
            all.addAll(List.of(2 * (1 + inputs + latches + k), gates.get(k)[0], gates.get(k)[1]));
        }
        all.forEach(n -> out.append(' ').append(n));
        return out.toString();
    }

    /** Letters of a row of inputs; latches ahead of each cycle go into ahead, if there is room for them. */
    int[] run(int[] row, int[] ahead) {
        int[] letters = new int[row.length];
        boolean[] state = new boolean[latches];
        for (int k = 0; k < latches; k++) {
            state[k] = firsts[k] == 1;
        }
        for (int t = 0; t < row.length; t++) {
            boolean[] values = new boolean[1 + inputs + latches + gates.size()];
            for (int k = 0; k < inputs; k++) {
                values[1 + k] = (row[t] & 1 << k) != 0;
            }
            System.arraycopy(state, 0, values, 1 + inputs, latches);
            for (int k = 0; k < gates.size(); k++) {
                values[1 + inputs + latches + k] = is(values, gates.get(k)[0]) && is(values, gates.get(k)[1]);
            }
            for (int k = 0; k < 6; k++) {
                letters[t] += is(values, signals[k]) ? 1 << k : 0;
            }
            for (int k = 0; k < latches; k++) {
                ahead[t] += state[k] ? 1 << k : 0;
            }
            for (int k = 0; k < latches; k++) {
                state[k] = is(values, nexts[k]);
            }
        }
        return letters;
    }

    private static boolean is(boolean[] values, int literal) {
        return values[literal / 2] != (literal % 2 == 1);
    }

    /** Reads a design text. */
    static final class Reader {
        private final List<Token> tokens = new ArrayList<>();
        private final Map<String, Integer> names = new LinkedHashMap<>();
        private final Map<String, Integer> latchNames = new LinkedHashMap<>();
        private DesignModel design;
        private int at;

        Reader(String text) {
            Matcher m = Pattern.compile(" *([a-z]+|[01;=!&|^()]|.)").matcher(text);
            int end = 0;
            while (end < text.length() && m.find(end) && m.start() == end) {
                String token = m.group(1);
                boolean bad = !token.matches("[a-z]{1,8}|[01;=!&|^()]");
                if (!token.equals(" ")) {
                    tokens.add(new Token(token, m.start(1), bad));
                }
                end = m.end();
            }
            tokens.add(new Token("", text.length(), false));
        }

        private Token now() {
            Token token = tokens.get(at);
            return token.bad ? new Token("bad sign", token.place, true) : token;
        }

        private void fault() {
            throw new Fault(tokens.get(at).place);
        }

        private void take(String text) {
            if (!now().text.equals(text)) {
                fault();
            }
            at++;
        }

        private String newName() {
            String name = now().text;
            if (!name.matches("[a-z]+") || name.matches("input|latch|wire|next|signal") || names.containsKey(name)) {
                fault();
            }
            at++;
            return name;
        }

        DesignModel read() {
            List<Integer> starts = new ArrayList<>();
            int inputs = 0;
            do {
                take("input");
                names.put(newName(), 2 * ++inputs);
                take(";");
            } while (now().text.equals("input") && inputs < 3);
            while (now().text.equals("latch") && starts.size() < 5) {
                take("latch");
                String name = newName();
                latchNames.put(name, starts.size());
                names.put(name, 2 * (1 + inputs + starts.size()));
                starts.add(now().text.equals("1") ? 1 : 0);
                take(now().text.equals("1") ? "1" : "0");
                take(";");
            }
            design = new DesignModel(inputs, starts.size());
            for (int k = 0; k < starts.size(); k++) {
                design.firsts[k] = starts.get(k);
            }
            while (!now().text.isEmpty()) {
                statement();
            }
            return design;
        }

        private void statement() {
            String word = now().text;
            if (!word.matches("wire|next|signal")) {
                fault();
            }
            at++;
            String name = now().text;
            if (word.equals("wire")) {
                newName();
            } else {
                if (word.equals("next") ? !latchNames.containsKey(name) : !name.matches("[a-f]")) {
                    fault();
                }
                at++;
            }
            take("=");
            int literal = expression(0);
            take(";");
            switch (word) {
                case "wire" -> names.put(name, literal);
                case "next" -> design.nexts[latchNames.get(name)] = literal;
                default -> design.signals[name.charAt(0) - 'a'] = literal;
            }
        }

        private int gates(int place, int... literals) {
            if (design.gates.size() + literals.length / 2 > 60) {
                throw new Fault(place);
            }
            return design.gate(literals[0], literals[1]);
        }

        private int expression(int open) {
            int literal = part(open);
            while (now().text.matches("[|^]")) {
                Token sign = tokens.get(at++);
                int second = part(open);
                if (sign.text.equals("|")) {
                    literal = gates(sign.place, literal ^ 1, second ^ 1) ^ 1;
                } else {
                    int left = gates(sign.place, literal, second ^ 1, 0, 0, 0, 0);
                    int right = gates(sign.place, literal ^ 1, second);
                    literal = gates(sign.place, left ^ 1, right ^ 1) ^ 1;
                }
            }
            return literal;
        }

        private int part(int open) {
            int literal = factor(open);
            while (now().text.equals("&")) {
                int place = tokens.get(at++).place;
                literal = gates(place, literal, factor(open));
            }
            return literal;
        }

        private int factor(int open) {
            String text = now().text;
            if (text.equals("!")) {
                at++;
                return factor(open) ^ 1;
            }
            if (text.equals("(")) {
                if (open == 20) {
                    fault();
                }
                at++;
                int literal = expression(open + 1);
                take(")");
                return literal;
            }
            if (!text.matches("[01]") && !names.containsKey(text)) {
                fault();
            }
            at++;
            return text.equals("0") ? 0 : text.equals("1") ? 1 : names.get(text);
        }
    }

    static DesignModel ofText(String text) {
        return new Reader(text).read();
    }

    /** Reads numbers: a list of them with places, each held against what it must be. */
    static DesignModel ofNumbers(String text) {
        List<int[]> numbers = new ArrayList<>();
        Matcher m = Pattern.compile(" *(aag|[0-9]+|.)").matcher(text);
        int end = 0;
        boolean first = true;
        while (end < text.length() && m.find(end)) {
            String token = m.group(1);
            end = m.end();
            if (token.isBlank()) {
                continue;
            }
            if (first) {
                if (!token.equals("aag")) {
                    throw new Fault(m.start(1));
                }
                first = false;
            } else {
                numbers.add(new int[] {token.matches("[0-9]{1,4}") ? Integer.parseInt(token) : -1, m.start(1)});
            }
        }
        if (first) {
            throw new Fault(text.length());
        }
        numbers.add(new int[] {-1, text.length()});
        int[] at = {0};
        int values = within(numbers, at, 1, 68);
        int inputs = within(numbers, at, 1, 3);
        int latches = within(numbers, at, 0, 5);
        within(numbers, at, 6, 6);
        int gates = values - inputs - latches;
        within(numbers, at, gates < 0 ? 10000 : gates, Math.min(60, gates));
        DesignModel design = new DesignModel(inputs, latches);
        for (int k = 1; k <= inputs; k++) {
            within(numbers, at, 2 * k, 2 * k);
        }
        for (int k = 0; k < latches; k++) {
            within(numbers, at, 2 * (1 + inputs + k), 2 * (1 + inputs + k));
            design.nexts[k] = within(numbers, at, 0, 2 * values + 1);
            design.firsts[k] = within(numbers, at, 0, 1);
        }
        for (int k = 0; k < 6; k++) {
            design.signals[k] = within(numbers, at, 0, 2 * values + 1);
        }
        for (int k = 0; k < gates; k++) {
            int own = within(numbers, at, 2 * (1 + inputs + latches + k), 2 * (1 + inputs + latches + k));
            int one = within(numbers, at, 0, own - 1);
            design.gate(one, within(numbers, at, 0, own - 1));
        }
        if (at[0] != numbers.size() - 1) {
            throw new Fault(numbers.get(at[0])[1]);
        }
        return design;
    }

    private static int within(List<int[]> numbers, int[] at, int least, int greatest) {
        int[] number = numbers.get(at[0]);
        if (number[0] < 0 || number[0] < least || number[0] > greatest) {
            throw new Fault(number[1]);
        }
        at[0]++;
        return number[0];
    }
}
