import java.util.ArrayList;
import java.util.HashMap;
import java.util.LinkedHashSet;
import java.util.List;
import java.util.Map;
import java.util.Set;

/**
 * The fault of a property's text, found by an Earley recogniser over the grammar as the document writes it:
 * a token is a fault if no item of the grammar goes on over it.
 */
final class FaultModel {
    private static final String[] GRAMMAR = {
        "P C", "P { S }", "P { S } |-> P", "P { S } |=> P", "P C -> P", "P always P", "P never { S }",
        "P next P", "P next [n] P", "P ( P until C )", "P ( C before C )", "P ( P and P )",
        "C T", "C C | T", "T L", "T T & L", "L A", "L ! A", "A sig", "A 0", "A 1",
        "S H", "S S ; H", "H B", "H H : B", "B Q", "B B || Q", "Q I", "Q Q && I",
        "I C", "I C R", "I C N", "I { S }", "I { S } R",
        "R [*]", "R [+]", "R [*n]", "R [*n..m]", "N [->n]", "N [=n]",
    };
    private static final Map<String, List<String[]>> RULES = new HashMap<>();

    static {
        for (String rule : GRAMMAR) {
            String[] signs = rule.split(" ");
            RULES.computeIfAbsent(signs[0], k -> new ArrayList<>()).add(signs);
        }
    }

    private record Token(String kind, int place, String text) {
    }

    private record Item(String[] rule, int dot, int from) {
    }

    private FaultModel() {
    }

    /** The token at a place, or one of the kind bad. */
    private static Token tokenAt(String text, int place) {
        String rest = text.substring(place);
        String[][] patterns = {
            {"[*]", "\\[\\*\\]"}, {"[+]", "\\[\\+\\]"}, {"[*n]", "\\[\\*[0-9]\\]"},
            {"[*n..m]", "\\[\\*[0-9]\\.\\.[0-9]\\]"}, {"[->n]", "\\[->[0-9]\\]"}, {"[=n]", "\\[=[0-9]\\]"},
            {"[n]", "\\[[0-9]\\]"},
        };
        for (String[] pattern : patterns) {
            java.util.regex.Matcher m = java.util.regex.Pattern.compile(pattern[1]).matcher(rest);
            if (m.lookingAt()) {
                return new Token(pattern[0], place, m.group());
            }
        }
        for (String sign : List.of("|->", "|=>", "||", "&&", "->", "!", "&", "|", ";", ":", "{", "}", "(", ")",
                "0", "1")) {
            if (rest.startsWith(sign)) {
                return new Token(sign, place, sign);
            }
        }
        java.util.regex.Matcher m = java.util.regex.Pattern.compile("[a-z]+").matcher(rest);
        if (m.lookingAt()) {
            String word = m.group();
            if (word.length() == 1 && word.charAt(0) <= 'f') {
                return new Token("sig", place, word);
            }
            boolean known = List.of("always", "never", "next", "until", "before", "and").contains(word);
            return new Token(known ? word : "bad", place, word);
        }
        return new Token("bad", place, rest.substring(0, 1));
    }

    static int fault(String text) {
        List<Set<Item>> columns = new ArrayList<>();
        columns.add(new LinkedHashSet<>());
        for (String[] rule : RULES.get("P")) {
            columns.get(0).add(new Item(rule, 1, 0));
        }
        close(columns);
        int open = 0;
        int braces = 0;
        int sequence = 0;
        int place = 0;
        while (true) {
            while (place < text.length() && text.charAt(place) == ' ') {
                place++;
            }
            if (place == text.length()) {
                return ends(columns) ? AssertionBench.NONE : place;
            }
            Token token = tokenAt(text, place);
            if (!scan(columns, token.kind())) {
                return place;
            }
            String kind = token.kind();
            if (kind.equals("[*n..m]") && token.text().charAt(5) < token.text().charAt(2)
                    || kind.equals("[->n]") && token.text().charAt(3) == '0') {
                return place;
            }
            open += kind.equals("{") || kind.equals("(") ? 1 : kind.equals("}") || kind.equals(")") ? -1 : 0;
            if (open > 20) {
                return place;
            }
            if (kind.equals("{")) {
                sequence = braces == 0 ? place : sequence;
                braces++;
            }
            if (kind.equals("}")) {
                braces--;
                if (braces == 0 && weight(text.substring(sequence + 1, place)) > 40) {
                    return sequence;
                }
            }
            place += token.text().length();
        }
    }

    private static boolean ends(List<Set<Item>> columns) {
        for (Item item : columns.get(columns.size() - 1)) {
            if (item.from == 0 && item.rule[0].equals("P") && item.dot == item.rule.length) {
                return true;
            }
        }
        return false;
    }

    private static boolean scan(List<Set<Item>> columns, String kind) {
        Set<Item> next = new LinkedHashSet<>();
        for (Item item : columns.get(columns.size() - 1)) {
            if (item.dot < item.rule.length && item.rule[item.dot].equals(kind)) {
                next.add(new Item(item.rule, item.dot + 1, item.from));
            }
        }
        columns.add(next);
        close(columns);
        return !next.isEmpty();
    }

    private static void close(List<Set<Item>> columns) {
        int here = columns.size() - 1;
        List<Item> work = new ArrayList<>(columns.get(here));
        for (int k = 0; k < work.size(); k++) {
            Item item = work.get(k);
            List<Item> more = new ArrayList<>();
            if (item.dot == item.rule.length) {
                for (Item parent : new ArrayList<>(columns.get(item.from))) {
                    if (parent.dot < parent.rule.length && parent.rule[parent.dot].equals(item.rule[0])) {
                        more.add(new Item(parent.rule, parent.dot + 1, parent.from));
                    }
                }
            } else {
                for (String[] rule : RULES.getOrDefault(item.rule[item.dot], List.of())) {
                    more.add(new Item(rule, 1, here));
                }
            }
            for (Item one : more) {
                if (columns.get(here).add(one)) {
                    work.add(one);
                }
            }
        }
    }

    /** The weight of a sequence that the grammar allows, by splitting it at its joints. */
    static int weight(String text) {
        String[] joints = {";", ":", "||", "&&"};
        for (String joint : joints) {
            List<String> pieces = split(text, joint);
            if (pieces.size() > 1) {
                int all = weight(pieces.get(0));
                for (String piece : pieces.subList(1, pieces.size())) {
                    int w = weight(piece);
                    all = Math.min(1000, joint.equals("&&") ? (all + 1) * (w + 1) : all + w);
                }
                return all;
            }
        }
        String item = text.trim();
        int bracket = item.lastIndexOf('[');
        int brace = item.lastIndexOf('}');
        String times = bracket > brace ? item.substring(bracket) : "";
        String of = (bracket > brace ? item.substring(0, bracket) : item).trim();
        int w = of.startsWith("{") ? weight(of.substring(1, of.length() - 1)) : 1;
        int n = times.isEmpty() ? 0 : times.charAt(times.length() - 2) - '0';
        if (times.startsWith("[->")) {
            return 2 * n;
        }
        if (times.startsWith("[=")) {
            return 2 * n + 1;
        }
        return times.isEmpty() || times.equals("[*]") || times.equals("[+]") ? w : Math.min(1000, Math.max(1, n) * w);
    }

    private static List<String> split(String text, String joint) {
        List<String> pieces = new ArrayList<>();
        int depth = 0;
        int from = 0;
        for (int k = 0; k < text.length(); k++) {
            depth += text.charAt(k) == '{' ? 1 : text.charAt(k) == '}' ? -1 : 0;
            if (depth == 0 && text.startsWith(joint, k)) {
                pieces.add(text.substring(from, k));
                from = k + joint.length();
                k = from - 1;
            }
        }
        pieces.add(text.substring(from));
        return pieces;
    }
}
