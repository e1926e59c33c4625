import java.util.ArrayList;
import java.util.IdentityHashMap;
import java.util.List;
import java.util.Map;
import java.util.TreeSet;

/**
 * Sequences and properties as trees, asked straight by the document's definitions: slow, without any
 * automaton, so that it shares nothing with the class that it is set against.
 */
final class Model {
    static final int WILD = 64;

    private Model() {
    }

    enum SeqKind { CONDITION, CHAIN, OVERLAP, EITHER, BOTH, STAR, PLUS, TIMES, ARROWS, EXACTLY }

    /** A condition's letters are a bit each of mask; low and high are n and m. */
    record Seq(SeqKind kind, long mask, Seq one, Seq two, int low, int high, String text) {
        int weight() {
            return switch (kind) {
                case CONDITION -> 1;
                case CHAIN, OVERLAP, EITHER -> Math.min(1000, one.weight() + two.weight());
                case BOTH -> Math.min(1000, (one.weight() + 1) * (two.weight() + 1));
                case STAR, PLUS -> one.weight();
                case TIMES -> Math.min(1000, Math.max(1, high) * one.weight());
                case ARROWS -> 2 * low;
                case EXACTLY -> 2 * low + 1;
            };
        }
    }

    enum Kind { CONDITION, PLAIN, OVERLAPS, FOLLOWS, IMPLIES, ALWAYS, NEVER, NEXT, UNTIL, BEFORE, BOTH }

    record Prop(Kind kind, long mask, long second, Seq seq, Prop one, Prop two, int n, String text) {
        /** This part and all in it, in the order in which they begin in the text. */
        List<Prop> parts() {
            List<Prop> all = new ArrayList<>();
            collect(all);
            return all;
        }

        private void collect(List<Prop> all) {
            all.add(this);
            if (one != null) {
                one.collect(all);
            }
            if (two != null) {
                two.collect(all);
            }
        }

        List<Seq> sequences() {
            List<Seq> all = new ArrayList<>();
            for (Prop part : parts()) {
                if (part.seq != null) {
                    all.add(part.seq);
                }
            }
            return all;
        }

        boolean small() {
            return sequences().size() <= 4 && sequences().stream().allMatch(s -> s.weight() <= 6);
        }
    }

    static boolean holds(long mask, int letter) {
        return letter == WILD || (mask >>> letter & 1) != 0;
    }

    /** Rows of one word; answers are kept, as the definitions ask the same again and again. */
    static final class Rows {
        private final int[] word;
        private final Map<Seq, Boolean[][]> kept = new IdentityHashMap<>();

        Rows(int... word) {
            this.word = word;
        }

        boolean of(Seq s, int i, int j) {
            Boolean[][] known = kept.computeIfAbsent(s, key -> new Boolean[word.length + 1][word.length + 1]);
            if (known[i][j] == null) {
                known[i][j] = reckon(s, i, j);
            }
            return known[i][j];
        }

        private boolean reckon(Seq s, int i, int j) {
            switch (s.kind()) {
                case CONDITION:
                    return j == i + 1 && holds(s.mask(), word[i]);
                case CHAIN:
                    for (int k = i; k <= j; k++) {
                        if (of(s.one(), i, k) && of(s.two(), k, j)) {
                            return true;
                        }
                    }
                    return false;
                case OVERLAP:
                    for (int k = i; k < j; k++) {
                        if (of(s.one(), i, k + 1) && of(s.two(), k, j)) {
                            return true;
                        }
                    }
                    return false;
                case EITHER:
                    return of(s.one(), i, j) || of(s.two(), i, j);
                case BOTH:
                    return of(s.one(), i, j) && of(s.two(), i, j);
                case STAR:
                    return some(s.one(), i, j);
                case PLUS:
                    for (int k = i; k <= j; k++) {
                        if (of(s.one(), i, k) && some(s.one(), k, j)) {
                            return true;
                        }
                    }
                    return false;
                case TIMES:
                    for (int n = s.low(); n <= s.high(); n++) {
                        if (times(s.one(), n, i, j)) {
                            return true;
                        }
                    }
                    return false;
                case ARROWS:
                    return arrows(s.mask(), s.low(), i, j);
                default:
                    for (int k = i; k <= j; k++) {
                        if (arrows(s.mask(), s.low(), i, k) && without(s.mask(), k, j)) {
                            return true;
                        }
                    }
                    return false;
            }
        }

        private boolean some(Seq s, int i, int j) {
            if (i == j) {
                return true;
            }
            for (int k = i + 1; k <= j; k++) {
                if (of(s, i, k) && some(s, k, j)) {
                    return true;
                }
            }
            return false;
        }

        private boolean times(Seq s, int n, int i, int j) {
            if (n == 0) {
                return i == j;
            }
            for (int k = i; k <= j; k++) {
                if (of(s, i, k) && times(s, n - 1, k, j)) {
                    return true;
                }
            }
            return false;
        }

        private boolean without(long mask, int i, int j) {
            for (int k = i; k < j; k++) {
                if (!holds(~mask, word[k])) {
                    return false;
                }
            }
            return true;
        }

        private boolean arrows(long mask, int n, int i, int j) {
            if (n == 0) {
                return i == j;
            }
            for (int k = i; k < j; k++) {
                if (without(mask, i, k) && holds(mask, word[k]) && arrows(mask, n - 1, k + 1, j)) {
                    return true;
                }
            }
            return false;
        }
    }

    static int[] part(int[] word, int i, int j, int wild) {
        int[] row = new int[j - i + wild];
        for (int k = 0; k < row.length; k++) {
            row[k] = i + k < j ? word[i + k] : WILD;
        }
        return row;
    }

    static boolean row(Seq s, int[] word, int i, int j) {
        return new Rows(part(word, i, j, 0)).of(s, 0, j - i);
    }

    /** With more wild letters than the weight nothing new can come. */
    static boolean goesOn(Seq s, int[] word, int i, int j) {
        for (int wild = 0; wild <= s.weight() + 1; wild++) {
            if (new Rows(part(word, i, j, wild)).of(s, 0, j - i + wild)) {
                return true;
            }
        }
        return false;
    }

    static boolean fails(Prop p, int[] word) {
        return new Word(word).fails(p, 0);
    }

    /** A word, and what fails from its places on; parts and where they begin. */
    static final class Word {
        final int[] word;
        private final Rows rows;
        private final Map<Seq, Boolean[]> going = new IdentityHashMap<>();

        Word(int[] word) {
            this.word = word;
            this.rows = new Rows(word);
        }

        private boolean goes(Seq s, int i) {
            Boolean[] known = going.computeIfAbsent(s, key -> new Boolean[word.length + 1]);
            if (known[i] == null) {
                known[i] = goesOn(s, word, i, word.length);
            }
            return known[i];
        }

        boolean fails(Prop p, int i) {
            int length = word.length;
            switch (p.kind()) {
                case CONDITION:
                    return i < length && !holds(p.mask(), word[i]);
                case PLAIN:
                    return i < length && !hasRow(p.seq(), i) && !goes(p.seq(), i);
                case OVERLAPS:
                    for (int k = i + 1; k <= length; k++) {
                        if (rows.of(p.seq(), i, k) && fails(p.one(), k - 1)) {
                            return true;
                        }
                    }
                    return false;
                case FOLLOWS:
                    for (int k = i; k <= length; k++) {
                        if (rows.of(p.seq(), i, k) && fails(p.one(), k)) {
                            return true;
                        }
                    }
                    return false;
                case IMPLIES:
                    return i < length && holds(p.mask(), word[i]) && fails(p.one(), i);
                case ALWAYS:
                    for (int j = i; j <= length; j++) {
                        if (fails(p.one(), j)) {
                            return true;
                        }
                    }
                    return false;
                case NEVER:
                    for (int j = i; j <= length; j++) {
                        for (int k = j + 1; k <= length; k++) {
                            if (rows.of(p.seq(), j, k)) {
                                return true;
                            }
                        }
                    }
                    return false;
                case NEXT:
                    return i + p.n() < length && fails(p.one(), i + p.n());
                case UNTIL:
                    for (int j = i; j < length && !holds(p.mask(), word[j]); j++) {
                        if (fails(p.one(), j)) {
                            return true;
                        }
                    }
                    return false;
                case BEFORE:
                    return failsBefore(p, i);
                default:
                    return fails(p.one(), i) || fails(p.two(), i);
            }
        }

        private boolean failsBefore(Prop p, int i) {
            for (int j = i; j < word.length; j++) {
                boolean none = true;
                for (int k = i; k < j; k++) {
                    none &= !(holds(p.mask(), word[k]) && !holds(p.second(), word[k]));
                }
                if (holds(p.second(), word[j]) && none) {
                    return true;
                }
            }
            return false;
        }

        boolean hasRow(Seq s, int i) {
            for (int k = i; k <= word.length; k++) {
                if (rows.of(s, i, k)) {
                    return true;
                }
            }
            return false;
        }

        /** The places, with a letter or the one behind them, at which each part begins. */
        List<TreeSet<Integer>> begins(Prop root) {
            List<Prop> parts = root.parts();
            List<TreeSet<Integer>> begins = new ArrayList<>();
            for (int k = 0; k < parts.size(); k++) {
                begins.add(new TreeSet<>());
            }
            begins.get(0).add(0);
            int at = 0;
            for (Prop part : parts) {
                for (int i : begins.get(at)) {
                    if (part.one() != null) {
                        begins.get(at + 1).addAll(beginsFrom(part, i));
                    }
                    if (part.two() != null) {
                        begins.get(at + 1 + part.one().parts().size()).add(i);
                    }
                }
                at++;
            }
            return begins;
        }

        private TreeSet<Integer> beginsFrom(Prop p, int i) {
            TreeSet<Integer> places = new TreeSet<>();
            int length = word.length;
            for (int j = i; j <= length; j++) {
                boolean at = switch (p.kind()) {
                    case OVERLAPS -> j < length && rows.of(p.seq(), i, j + 1);
                    case FOLLOWS -> rows.of(p.seq(), i, j);
                    case IMPLIES -> j == i && j < length && holds(p.mask(), word[j]);
                    case ALWAYS -> true;
                    case NEXT -> j == i + p.n();
                    case UNTIL -> noneHas(p.mask(), i, Math.min(j + 1, length));
                    case BOTH -> j == i;
                    default -> false;
                };
                if (at) {
                    places.add(j);
                }
            }
            return places;
        }

        private boolean noneHas(long mask, int i, int j) {
            for (int k = i; k < j; k++) {
                if (holds(mask, word[k])) {
                    return false;
                }
            }
            return true;
        }

        /** The flip-flops, one sign each. */
        String flops(Prop root) {
            StringBuilder out = new StringBuilder();
            int length = word.length;
            tell(out, length == 0);
            List<Prop> parts = root.parts();
            List<TreeSet<Integer>> begins = begins(root);
            for (int at = 0; at < parts.size(); at++) {
                Prop part = parts.get(at);
                TreeSet<Integer> places = new TreeSet<>(begins.get(at).headSet(length));
                switch (part.kind()) {
                    case PLAIN, OVERLAPS, FOLLOWS, NEVER -> tellRows(out, part, places);
                    case ALWAYS -> tell(out, !places.isEmpty());
                    case NEXT -> {
                        for (int k = 0; k < part.n(); k++) {
                            tell(out, places.contains(length - 1 - k));
                        }
                    }
                    case UNTIL, BEFORE ->
                        tell(out, places.stream().anyMatch(i -> noneHas(part.mask(), i, length)));
                    default -> { }
                }
            }
            tell(out, fails(root, 0));
            return out.toString();
        }

        private static void tell(StringBuilder out, boolean bit) {
            out.append(bit ? '1' : '0');
        }

        private void tellRows(StringBuilder out, Prop part, TreeSet<Integer> places) {
            ClassModel classes = new ClassModel(part.seq());
            int length = word.length;
            TreeSet<Integer> from = new TreeSet<>(places);
            for (int j = 0; j <= length && part.kind() == Kind.NEVER && !places.isEmpty(); j++) {
                if (j >= places.first()) {
                    from.add(j);
                }
            }
            for (int c = 0; c < classes.count(); c++) {
                boolean plain = part.kind() == Kind.PLAIN;
                if (classes.kind(c) == 0 || plain && classes.kind(c) == 3) {
                    continue;
                }
                boolean found = false;
                for (int i : from) {
                    found |= classes.of(word, i, length) == c && !(plain && hasRow(part.seq(), i));
                }
                tell(out, found);
            }
        }
    }
}
