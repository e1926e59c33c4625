import java.util.ArrayList;
import java.util.HashMap;
import java.util.List;
import java.util.Map;

/** The classes of a sequence, by going over what is left of it behind rows: short ones first, then by their letters. */
final class ClassModel {
    private static final int LETTERS = 64;

    private final List<Rest> rests = new ArrayList<>();
    private final List<int[]> next = new ArrayList<>();
    private int[] classOfRest;
    private final List<Integer> firsts = new ArrayList<>();

    ClassModel(Model.Seq s) {
        Map<Rest, Integer> known = new HashMap<>();
        known.put(Rest.of(s), 0);
        rests.add(Rest.of(s));
        for (int at = 0; at < rests.size(); at++) {
            int[] row = new int[LETTERS];
            for (int v = 0; v < LETTERS; v++) {
                Rest behind = rests.get(at).behind(v);
                if (!known.containsKey(behind)) {
                    known.put(behind, rests.size());
                    rests.add(behind);
                }
                row[v] = known.get(behind);
            }
            next.add(row);
        }
        classOfRest = numbered(rests.stream().map(Rest::kind).toList());
        for (int before = 0, now = count(); now > before;) {
            before = now;
            classOfRest = numbered(signatures());
            now = count();
        }
        for (int c = 0; c < count(); c++) {
            firsts.add(firstOf(c));
        }
    }

    /** What is equal has one number; numbers rise as what has them comes first. */
    private static int[] numbered(List<?> all) {
        Map<Object, Integer> numbers = new HashMap<>();
        int[] out = new int[all.size()];
        for (int k = 0; k < out.length; k++) {
            numbers.putIfAbsent(all.get(k), numbers.size());
            out[k] = numbers.get(all.get(k));
        }
        return out;
    }

    /** Of each the class that it is in so far, and those that letters lead to. */
    private List<List<Integer>> signatures() {
        List<List<Integer>> all = new ArrayList<>();
        for (int at = 0; at < rests.size(); at++) {
            List<Integer> one = new ArrayList<>(List.of(classOfRest[at]));
            for (int to : next.get(at)) {
                one.add(classOfRest[to]);
            }
            all.add(one);
        }
        return all;
    }

    private int firstOf(int c) {
        int at = 0;
        while (classOfRest[at] != c) {
            at++;
        }
        return at;
    }

    int count() {
        int most = 0;
        for (int c : classOfRest) {
            most = Math.max(most, c);
        }
        return most + 1;
    }

    int kind(int c) {
        return rests.get(firsts.get(c)).kind();
    }

    int behind(int c, int letter) {
        return classOfRest[next.get(firsts.get(c))[letter]];
    }

    int of(int[] word, int i, int j) {
        int c = 0;
        for (int place = i; place < j; place++) {
            c = behind(c, word[place]);
        }
        return c;
    }
}
