import java.util.Random;

/** Makes texts by the document's grammar, each with its tree. Seeds are written, so that each run is the same. */
final class Maker {
    private final Random random;
    private final int signals;

    Maker(long seed, int signals) {
        this.random = new Random(seed);
        this.signals = signals;
    }

    int below(int n) {
        return random.nextInt(n);
    }

    private String blank() {
        return below(6) == 0 ? " " : "";
    }

    private static long lettersWith(int signal) {
        long mask = 0;
        for (int v = 0; v < 64; v++) {
            mask |= (long) (v >> signal & 1) << v;
        }
        return mask;
    }

    /** A condition as a sequence of one letter. */
    Model.Seq condition() {
        StringBuilder text = new StringBuilder();
        long any = 0;
        int terms = below(5) == 0 ? 2 : 1;
        for (int t = 0; t < terms; t++) {
            text.append(t == 0 ? "" : blank() + "|" + blank());
            long all = ~0L;
            int atoms = below(4) == 0 ? 2 : 1;
            for (int a = 0; a < atoms; a++) {
                text.append(a == 0 ? "" : blank() + "&" + blank());
                boolean not = below(3) == 0;
                text.append(not ? "!" : "");
                int which = below(12);
                long mask = which == 0 ? 0 : which == 1 ? ~0L : lettersWith(which % signals);
                text.append(which < 2 ? String.valueOf(which) : String.valueOf((char) ('a' + which % signals)));
                all &= not ? ~mask : mask;
            }
            any |= all;
        }
        return new Model.Seq(Model.SeqKind.CONDITION, any, null, null, 0, 0, text.toString());
    }

    Model.Seq sequence(int depth) {
        return joined(depth, 0);
    }

    /** Ranks 0 .. 3 are ; : || &&, rank 4 an item. */
    private Model.Seq joined(int depth, int rank) {
        if (rank == 4) {
            return item(depth);
        }
        String[] signs = {";", ":", "||", "&&"};
        Model.SeqKind[] kinds = {Model.SeqKind.CHAIN, Model.SeqKind.OVERLAP, Model.SeqKind.EITHER,
            Model.SeqKind.BOTH};
        Model.Seq all = joined(depth, rank + 1);
        int more = below(rank == 0 ? 2 : 5) == 0 ? 1 + below(2) : 0;
        for (int k = 0; k < more; k++) {
            Model.Seq next = joined(depth, rank + 1);
            String text = all.text() + blank() + signs[rank] + blank() + next.text();
            all = new Model.Seq(kinds[rank], 0, all, next, 0, 0, text);
        }
        return all;
    }

    private Model.Seq item(int depth) {
        boolean braced = depth > 0 && below(3) == 0;
        Model.Seq of = braced ? sequence(depth - 1) : condition();
        String text = braced ? "{" + blank() + of.text() + blank() + "}" : of.text();
        int n = below(4);
        int m = n + below(3);
        switch (below(braced ? 8 : 14)) {
            case 0:
                return new Model.Seq(Model.SeqKind.STAR, 0, of, null, 0, 0, text + blank() + "[*]");
            case 1:
                return new Model.Seq(Model.SeqKind.PLUS, 0, of, null, 0, 0, text + blank() + "[+]");
            case 2:
                return new Model.Seq(Model.SeqKind.TIMES, 0, of, null, n, n, text + "[*" + n + "]");
            case 3:
                return new Model.Seq(Model.SeqKind.TIMES, 0, of, null, n, m, text + "[*" + n + ".." + m + "]");
            case 8:
                return new Model.Seq(Model.SeqKind.ARROWS, of.mask(), null, null, n + 1, n + 1,
                        text + "[->" + (n + 1) + "]");
            case 9:
                return new Model.Seq(Model.SeqKind.EXACTLY, of.mask(), null, null, n, n, text + "[=" + n + "]");
            default:
                return new Model.Seq(of.kind(), of.mask(), of.one(), of.two(), of.low(), of.high(), text);
        }
    }

    /** A sequence of a weight up to this. */
    Model.Seq sequenceUpTo(int weight) {
        for (int n = 0; n < 1000; n++) {
            Model.Seq s = sequence(2);
            if (s.weight() <= weight) {
                return s;
            }
        }
        return condition();
    }

    Model.Prop property(int depth, int weight) {
        int which = depth <= 0 ? below(4) : below(16);
        Model.Seq c = condition();
        switch (which) {
            case 0:
                return new Model.Prop(Model.Kind.CONDITION, c.mask(), 0, null, null, null, 0, c.text());
            case 1:
            case 2:
                return sequenced(Model.Kind.PLAIN, "", weight, "", null);
            case 3:
                return sequenced(Model.Kind.NEVER, "never" + blank(), weight, "", null);
            case 4:
            case 5:
                return sequenced(Model.Kind.OVERLAPS, "", weight, "|->", property(depth - 1, weight));
            case 6:
            case 7:
                return sequenced(Model.Kind.FOLLOWS, "", weight, "|=>", property(depth - 1, weight));
            case 8:
                Model.Prop then = property(depth - 1, weight);
                return new Model.Prop(Model.Kind.IMPLIES, c.mask(), 0, null, then, null, 0,
                        c.text() + blank() + "->" + blank() + then.text());
            case 9:
            case 10:
            case 11:
                Model.Prop each = property(depth - 1, weight);
                return new Model.Prop(Model.Kind.ALWAYS, 0, 0, null, each, null, 0, "always " + each.text());
            case 12:
                return next(property(depth - 1, weight));
            case 13:
                Model.Prop held = property(depth - 1, weight);
                return new Model.Prop(Model.Kind.UNTIL, c.mask(), 0, null, held, null, 0,
                        "(" + blank() + held.text() + " until " + c.text() + blank() + ")");
            case 14:
                Model.Seq d = condition();
                return new Model.Prop(Model.Kind.BEFORE, c.mask(), d.mask(), null, null, null, 0,
                        "(" + blank() + c.text() + " before " + d.text() + blank() + ")");
            default:
                Model.Prop one = property(depth - 1, weight);
                Model.Prop two = property(depth - 1, weight);
                return new Model.Prop(Model.Kind.BOTH, 0, 0, null, one, two, 0,
                        "(" + one.text() + " and " + two.text() + ")");
        }
    }

    private Model.Prop sequenced(Model.Kind kind, String ahead, int weight, String arrow, Model.Prop then) {
        Model.Seq s = sequenceUpTo(weight);
        String text = ahead + "{" + blank() + s.text() + "}" + blank() + arrow + (then == null ? "" : then.text());
        return new Model.Prop(kind, 0, 0, s, then, null, 0, text);
    }

    private Model.Prop next(Model.Prop then) {
        int n = below(4);
        boolean told = n != 1 || below(2) == 0;
        return new Model.Prop(Model.Kind.NEXT, 0, 0, null, then, null, n,
                (told ? "next" + blank() + "[" + n + "]" + blank() : "next ") + then.text());
    }

    /** A text that fits and is not over long. */
    Model.Prop propertyUpTo(int depth, int weight, int signs) {
        for (int n = 0; n < 1000; n++) {
            Model.Prop p = property(depth, weight);
            if (p.text().length() <= signs) {
                return p;
            }
        }
        throw new IllegalStateException("no such property");
    }

    int[] word(int length) {
        int[] word = new int[length];
        int keep = below(3);
        for (int k = 0; k < length; k++) {
            // Letters that come again make longer rows.
            word[k] = k > 0 && below(3) < keep ? word[k - 1] : below(1 << signals);
        }
        return word;
    }
}
