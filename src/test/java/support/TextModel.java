import java.util.regex.Matcher;
import java.util.regex.Pattern;

/** Reads a property's text into a tree, by throwing the place of its fault. */
final class TextModel {
    private static final Pattern TOKEN = Pattern.compile("\\[\\*]|\\[\\+]|\\[\\*\\d(\\.\\.\\d)?]|\\[->\\d]|\\[=\\d]|\\[\\d]"
            + "|\\|->|\\|=>|\\|\\||&&|->|[!&|;:{}()01]|([a-f]|always|never|next|until|before|and)(?![a-z])");
    private static final String[] JOINTS = {";", ":", "||", "&&"};
    private static final Model.SeqKind[] JOINED = {Model.SeqKind.CHAIN, Model.SeqKind.OVERLAP, Model.SeqKind.EITHER,
        Model.SeqKind.BOTH};

    private final String text;
    private int place;
    private String token = "";
    private int open;

    private TextModel(String text) {
        this.text = text;
        goOn();
    }

    static Model.Prop read(String text) {
        TextModel model = new TextModel(text);
        Model.Prop p = model.property();
        if (model.place < text.length()) {
            throw model.fault();
        }
        return p;
    }

    /** The token that comes; none at the end, nor where none begins. */
    private void goOn() {
        place += token.length();
        while (place < text.length() && text.charAt(place) == ' ') {
            place++;
        }
        Matcher m = TOKEN.matcher(text).region(place, text.length());
        // Else the region's end would hide the letters that make a word longer.
        m.useTransparentBounds(true);
        token = m.lookingAt() ? m.group() : "";
    }

    private DesignModel.Fault fault() {
        return new DesignModel.Fault(place);
    }

    private boolean is(String wanted) {
        return token.equals(wanted);
    }

    private boolean takes(String wanted) {
        boolean found = is(wanted);
        if (found) {
            goOn();
        }
        return found;
    }

    private void take(String wanted) {
        if (!takes(wanted)) {
            throw fault();
        }
    }

    private void takeOpening(String wanted) {
        if (open == 20) {
            throw fault();
        }
        take(wanted);
        open++;
    }

    private long condition() {
        long any = 0;
        do {
            long all = ~0L;
            do {
                all &= atom();
            } while (takes("&"));
            any |= all;
        } while (takes("|"));
        return any;
    }

    private long atom() {
        boolean not = takes("!");
        if (!token.matches("[a-f01]")) {
            throw fault();
        }
        long mask = is("0") ? 0 : ~0L;
        for (int v = 0; v < 64 && token.matches("[a-f]"); v++) {
            boolean has = (v >> token.charAt(0) - 'a' & 1) != 0;
            mask &= has ? ~0L : ~(1L << v);
        }
        goOn();
        return not ? ~mask : mask;
    }

    private Model.Seq sequence() {
        int brace = place;
        Model.Seq s = braced();
        if (s.weight() > 40) {
            throw new DesignModel.Fault(brace);
        }
        // Only now, as a sequence too great comes ahead of what stands behind it.
        take("}");
        open--;
        return s;
    }

    private Model.Seq braced() {
        takeOpening("{");
        Model.Seq s = joined(0);
        if (!is("}")) {
            throw fault();
        }
        return s;
    }

    private Model.Seq joined(int rank) {
        if (rank == JOINTS.length) {
            return item();
        }
        Model.Seq all = joined(rank + 1);
        while (takes(JOINTS[rank])) {
            all = seq(JOINED[rank], 0, all, joined(rank + 1), 0, 0);
        }
        return all;
    }

    private static Model.Seq seq(Model.SeqKind kind, long mask, Model.Seq one, Model.Seq two, int low, int high) {
        return new Model.Seq(kind, mask, one, two, low, high, "");
    }

    private Model.Seq item() {
        boolean inBraces = is("{");
        Model.Seq of;
        if (inBraces) {
            of = braced();
            take("}");
            open--;
        } else {
            of = seq(Model.SeqKind.CONDITION, condition(), null, null, 0, 0);
        }
        if (!token.startsWith("[") || token.matches("\\[\\d]")) {
            return of;
        }
        Model.Seq counted = counted(of, inBraces);
        goOn();
        return counted;
    }

    private Model.Seq counted(Model.Seq of, boolean inBraces) {
        if (is("[*]") || is("[+]")) {
            return seq(is("[*]") ? Model.SeqKind.STAR : Model.SeqKind.PLUS, 0, of, null, 0, 0);
        }
        int high = token.charAt(token.length() - 2) - '0';
        if (token.startsWith("[*")) {
            int low = token.charAt(2) - '0';
            if (high < low) {
                throw fault();
            }
            return seq(Model.SeqKind.TIMES, 0, of, null, low, high);
        }
        boolean arrows = token.startsWith("[->");
        if (inBraces || arrows && high == 0) {
            throw fault();
        }
        return seq(arrows ? Model.SeqKind.ARROWS : Model.SeqKind.EXACTLY, of.mask(), null, null, high, high);
    }

    private static Model.Prop prop(Model.Kind kind, long mask, Model.Seq s, Model.Prop one) {
        return new Model.Prop(kind, mask, 0, s, one, null, 0, "");
    }

    private Model.Prop property() {
        if (takes("always")) {
            return prop(Model.Kind.ALWAYS, 0, null, property());
        }
        if (takes("never")) {
            return prop(Model.Kind.NEVER, 0, sequence(), null);
        }
        if (takes("next")) {
            return next();
        }
        if (is("{")) {
            Model.Seq s = sequence();
            if (is("|->") || is("|=>")) {
                Model.Kind kind = is("|->") ? Model.Kind.OVERLAPS : Model.Kind.FOLLOWS;
                goOn();
                return prop(kind, 0, s, property());
            }
            return prop(Model.Kind.PLAIN, 0, s, null);
        }
        if (is("(")) {
            return inParens();
        }
        long mask = condition();
        return takes("->") ? prop(Model.Kind.IMPLIES, mask, null, property()) : prop(Model.Kind.CONDITION, mask, null, null);
    }

    private Model.Prop next() {
        int n = 1;
        if (token.matches("\\[\\d]")) {
            n = token.charAt(1) - '0';
            goOn();
        }
        return new Model.Prop(Model.Kind.NEXT, 0, 0, null, property(), null, n, "");
    }

    private Model.Prop inParens() {
        takeOpening("(");
        Model.Prop one = property();
        Model.Prop all;
        if (takes("until")) {
            all = prop(Model.Kind.UNTIL, condition(), null, one);
        } else if (takes("and")) {
            all = new Model.Prop(Model.Kind.BOTH, 0, 0, null, one, property(), 0, "");
        } else if (is("before") && one.kind() == Model.Kind.CONDITION) {
            goOn();
            all = new Model.Prop(Model.Kind.BEFORE, one.mask(), condition(), null, null, null, 0, "");
        } else {
            throw fault();
        }
        take(")");
        open--;
        return all;
    }
}
