import java.util.HashSet;
import java.util.Set;

/**
 * What is left of a sequence behind letters: sequences, of one of which the letters still to come must be a row. No row
 * is split and no automaton is built, so that it shares nothing with the class, nor with the rows of Model.
 */
record Rest(Set<Model.Seq> left) {
    /** The sequence that has the row of no letters alone. */
    private static final Model.Seq NO_LETTERS = new Model.Seq(Model.SeqKind.TIMES, 0, null, null, 0, 0, "");

    static Rest of(Model.Seq s) {
        return new Rest(Set.of(plain(s)));
    }

    /** Without its text, so that what means the same is the same. */
    private static Model.Seq plain(Model.Seq s) {
        return s == null ? null : new Model.Seq(s.kind(), s.mask(), plain(s.one()), plain(s.two()), s.low(), s.high(), "");
    }

    Rest behind(int letter) {
        Set<Model.Seq> all = new HashSet<>();
        for (Model.Seq s : left) {
            all.addAll(behind(s, letter));
        }
        return new Rest(all);
    }

    Rest behind(int[] word, int i, int j) {
        Rest rest = this;
        for (int place = i; place < j; place++) {
            rest = rest.behind(word[place]);
        }
        return rest;
    }

    boolean isRow() {
        return hasNone(left);
    }

    /** Wild letters are given until nothing new is left. */
    boolean goesOn() {
        Set<Rest> seen = new HashSet<>();
        Rest rest = this;
        while (seen.add(rest) && !rest.isRow()) {
            rest = rest.behind(Model.WILD);
        }
        return rest.isRow();
    }

    int kind() {
        return isRow() ? 3 : goesOn() ? 2 : 0;
    }

    private static boolean hasNone(Set<Model.Seq> left) {
        return left.stream().anyMatch(Rest::hasNone);
    }

    /** Whether the row of no letters is one of it. */
    private static boolean hasNone(Model.Seq s) {
        return switch (s.kind()) {
            case CONDITION, OVERLAP -> false;
            case CHAIN, BOTH -> hasNone(s.one()) && hasNone(s.two());
            case EITHER -> hasNone(s.one()) || hasNone(s.two());
            case STAR -> true;
            case PLUS -> hasNone(s.one());
            case TIMES -> s.low() == 0 || hasNone(s.one());
            case ARROWS, EXACTLY -> s.low() == 0;
        };
    }

    private static Set<Model.Seq> behind(Model.Seq s, int letter) {
        Set<Model.Seq> all = new HashSet<>();
        switch (s.kind()) {
            case CONDITION -> {
                if (Model.holds(s.mask(), letter)) {
                    all.add(NO_LETTERS);
                }
            }
            case CHAIN -> {
                behind(s.one(), letter).forEach(one -> all.add(chain(one, s.two())));
                if (hasNone(s.one())) {
                    all.addAll(behind(s.two(), letter));
                }
            }
            case OVERLAP -> {
                Set<Model.Seq> ones = behind(s.one(), letter);
                ones.forEach(one -> all.add(joined(Model.SeqKind.OVERLAP, one, s.two())));
                if (hasNone(ones)) {
                    all.addAll(behind(s.two(), letter));
                }
            }
            case EITHER -> {
                all.addAll(behind(s.one(), letter));
                all.addAll(behind(s.two(), letter));
            }
            case BOTH -> {
                Set<Model.Seq> twos = behind(s.two(), letter);
                behind(s.one(), letter)
                        .forEach(one -> twos.forEach(two -> all.add(joined(Model.SeqKind.BOTH, one, two))));
            }
            case STAR, PLUS -> behind(s.one(), letter)
                    .forEach(one -> all.add(chain(one, joined(Model.SeqKind.STAR, s.one(), null))));
            case TIMES -> {
                if (s.high() > 0) {
                    behind(s.one(), letter).forEach(one -> all.add(chain(one, fewer(s))));
                }
            }
            default -> counted(s, letter, all);
        }
        return all;
    }

    private static Model.Seq joined(Model.SeqKind kind, Model.Seq one, Model.Seq two) {
        return new Model.Seq(kind, 0, one, two, 0, 0, "");
    }

    private static Model.Seq chain(Model.Seq one, Model.Seq two) {
        return one.equals(NO_LETTERS) ? two : two.equals(NO_LETTERS) ? one : joined(Model.SeqKind.CHAIN, one, two);
    }

    /** One row less is still to come. */
    private static Model.Seq fewer(Model.Seq s) {
        return s.high() == 1 ? NO_LETTERS
                : new Model.Seq(s.kind(), 0, s.one(), null, Math.max(0, s.low() - 1), s.high() - 1, "");
    }

    /** Behind c[->n] and c[=n]: as many are still to come, or one less. */
    private static void counted(Model.Seq s, int letter, Set<Model.Seq> all) {
        boolean ended = s.low() == 0;
        if (Model.holds(~s.mask(), letter) && !(ended && s.kind() == Model.SeqKind.ARROWS)) {
            all.add(s);
        }
        if (Model.holds(s.mask(), letter) && !ended) {
            all.add(new Model.Seq(s.kind(), s.mask(), null, null, s.low() - 1, s.low() - 1, ""));
        }
    }
}
