import java.util.ArrayList;
import java.util.HashMap;
import java.util.List;
import java.util.Map;
import java.util.Random;

/**
 * Promises 7 and 8 by their meaning alone: of pairs of small types the join is below all types above
 * both, and the meet above all types below both, among all types up to a size.
 */
public final class LeastBoundsTest {
    private static final int PAIRS = 1500;
    private static final Checks checks = new Checks();
    private static final Oracle oracle = new Oracle();
    private final Map<String, List<String>> made = new HashMap<>();
    private final List<String> texts = new ArrayList<>();
    private final List<Oracle.Ty> types = new ArrayList<>();
    private final String labels;
    private int pairTypes;

    private LeastBoundsTest(String labels) {
        this.labels = labels;
    }

    public static void main(String[] args) {
        new LeastBoundsTest("x").check(6, 7);
        new LeastBoundsTest("xy").check(5, 6);
        checks.end();
    }

    private void check(int pairSize, int size) {
        for (int n = 1; n <= size; n++) {
            for (String text : ofSize(n, 0)) {
                texts.add(text);
                types.add(read(text));
            }
            pairTypes = n == pairSize ? texts.size() : pairTypes;
        }
        Random random = new Random(11);
        for (int pair = 0; pair < PAIRS; pair++) {
            int i = random.nextInt(pairTypes);
            int j = random.nextInt(pairTypes);
            // Half of the pairs are of one form, as others seldom have a meet.
            while (pair % 2 == 0 && texts.get(i).charAt(0) != texts.get(j).charAt(0)) {
                j = random.nextInt(pairTypes);
            }
            checkPair(i, j);
        }
    }

    /** All types of a size in a place with that many open type variables, which are P, Q, .. there. */
    private List<String> ofSize(int size, int open) {
        String key = size + " " + open;
        if (made.containsKey(key)) {
            return made.get(key);
        }
        List<String> all = new ArrayList<>();
        if (size == 1) {
            all.add("T");
            all.add("[]");
            for (int level = 0; level < open; level++) {
                all.add(String.valueOf((char) ('P' + level)));
            }
        } else {
            for (char label : labels.toCharArray()) {
                ofSize(size - 1, open).forEach(part -> all.add("[" + label + part + "]"));
            }
        }
        for (int left = 1; left < size - 1; left++) {
            addPairs(all, "(", left, ">", size - 1 - left, ")", open, open);
            addPairs(all, "<" + (char) ('P' + open) + ":", left, ">", size - 1 - left, "", open, open + 1);
            if (labels.length() > 1) {
                addPairs(all, "[x", left, ",y", size - 1 - left, "]", open, open);
            }
        }
        made.put(key, all);
        return all;
    }

    private void addPairs(List<String> all, String begin, int left, String middle, int right, String end,
        int leftOpen, int rightOpen) {
        for (String one : ofSize(left, leftOpen)) {
            for (String other : ofSize(right, rightOpen)) {
                all.add(begin + one + middle + other + end);
            }
        }
    }

    private static Oracle.Ty read(String text) {
        for (char c : text.toCharArray()) {
            oracle.type(c);
        }
        oracle.readType(0);
        return oracle.slots[0];
    }

    private static boolean below(Oracle.Ty low, Oracle.Ty high) {
        return oracle.isBelow(low, high, Map.of());
    }

    private void checkPair(int i, int j) {
        String pair = texts.get(i) + " and " + texts.get(j);
        BoundedSchemes s = Checks.withTypes(texts.get(i), texts.get(j));
        checks.due("a join of " + pair, s.join(0, 1, 2) > 0, true);
        boolean hasMeet = s.meet(0, 1, 3) > 0;
        Oracle.Ty join = read(Checks.written(s, 2));
        Oracle.Ty meet = hasMeet ? read(Checks.written(s, 3)) : null;
        Oracle.Ty left = types.get(i);
        Oracle.Ty right = types.get(j);
        checks.due("join above " + pair, below(left, join) && below(right, join), true);
        checks.due("meet below " + pair, !hasMeet || below(meet, left) && below(meet, right), true);
        for (int k = 0; k < types.size(); k++) {
            Oracle.Ty other = types.get(k);
            if (below(left, other) && below(right, other)) {
                checks.due("join of " + pair + " below " + texts.get(k), below(join, other), true);
            }
            if (below(other, left) && below(other, right)) {
                checks.due("meet of " + pair + " above " + texts.get(k), hasMeet && below(other, meet), true);
            }
        }
    }
}
