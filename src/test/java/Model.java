import java.util.ArrayList;
import java.util.HashSet;
import java.util.List;
import java.util.Set;
import java.util.TreeSet;

/**
 * The document told again with the Java library: fillings are grown statement by statement,
 * where the program tries all codes, so that the two are unlikely to share a fault.
 */
final class Model {
    private static final int OPEN = Numbers.OPEN;

    private final Set<Integer> set = new TreeSet<>();
    private final List<Integer> needed = new ArrayList<>();
    private Integer extra = null;
    private final List<int[]> conditions = new ArrayList<>();

    private static boolean within(int number, int least, int greatest) {
        return least <= number && number <= greatest;
    }

    int state(int statement) {
        if (!within(statement, 0, 255)) {
            return -1;
        }
        if (!set.contains(statement) && set.size() == 48) {
            return -2;
        }
        return set.add(statement) ? 1 : 0;
    }

    int sow(int seed, int step, int count) {
        if (!within(seed, 0, 255)) {
            return -1;
        }
        if (!within(step, 0, 255)) {
            return -2;
        }
        if (!within(count, 1, 48)) {
            return -3;
        }
        for (int k = 0; k < count; k++) {
            state(Math.floorMod(seed + k * step, 256));
        }
        return set.size();
    }

    int retract(int statement) {
        if (!within(statement, 0, 255)) {
            return -1;
        }
        return set.remove(statement) ? set.size() : -2;
    }

    int need(int pattern) {
        if (!within(pattern, 0, 1727)) {
            return -1;
        }
        if (needed.size() == 4) {
            return -2;
        }
        needed.add(pattern);
        return needed.size();
    }

    int extra(int pattern) {
        if (!within(pattern, 0, 1727)) {
            return -1;
        }
        int before = extra == null ? 0 : 1;
        extra = pattern;
        return before;
    }

    int condition(int kind, int first, int second) {
        if (!within(kind, 0, 2)) {
            return -1;
        }
        if (!within(first, 0, 11) || !within(second, 0, 11)) {
            return -2;
        }
        if (conditions.size() == 3) {
            return -3;
        }
        conditions.add(new int[] {kind, first, second});
        return conditions.size();
    }

    int drop() {
        if (needed.isEmpty()) {
            return -1;
        }
        needed.remove(needed.size() - 1);
        return needed.size();
    }

    int clear() {
        int before = needed.size();
        needed.clear();
        extra = null;
        conditions.clear();
        return before;
    }

    int statements() {
        return set.size();
    }

    int matching(int pattern) {
        if (!within(pattern, 0, 1727)) {
            return -1;
        }
        return extended(List.of(OPEN, OPEN, OPEN, OPEN), pattern, set).size();
    }

    int solutions() {
        return codes(set).size();
    }

    int next(int after) {
        Integer found = codes(set).higher(after);
        return found == null ? -1 : found;
    }

    int isSolution(int code) {
        if (!within(code, 0, 6560)) {
            return -1;
        }
        return codes(set).contains(code) ? 1 : 0;
    }

    int values(int v) {
        if (!within(v, 0, 3)) {
            return -1;
        }
        int sum = 0;
        for (int value = 0; value <= 8; value++) {
            sum += having(v, value) > 0 ? 1 << value : 0;
        }
        return sum;
    }

    int having(int v, int value) {
        if (!within(v, 0, 3)) {
            return -1;
        }
        if (!within(value, 0, 8)) {
            return -2;
        }
        int count = 0;
        for (List<Integer> filling : fillings(set)) {
            count += filling.get(v) == value ? 1 : 0;
        }
        return count;
    }

    int pairs(int v, int w) {
        if (!within(v, 0, 3) || !within(w, 0, 3)) {
            return -1;
        }
        Set<List<Integer>> pairs = new HashSet<>();
        for (List<Integer> filling : fillings(set)) {
            pairs.add(List.of(filling.get(v), filling.get(w)));
        }
        return pairs.size();
    }

    int vital() {
        int all = codes(set).size();
        int count = 0;
        for (int statement : set) {
            Set<Integer> rest = new TreeSet<>(set);
            rest.remove(statement);
            count += codes(rest).size() < all ? 1 : 0;
        }
        return count;
    }

    private TreeSet<Integer> codes(Set<Integer> from) {
        TreeSet<Integer> codes = new TreeSet<>();
        for (List<Integer> filling : fillings(from)) {
            int code = 0;
            for (int digit : filling) {
                code = 9 * code + digit;
            }
            codes.add(code);
        }
        return codes;
    }

    private Set<List<Integer>> fillings(Set<Integer> from) {
        Set<List<Integer>> fillings = new HashSet<>();
        fillings.add(List.of(OPEN, OPEN, OPEN, OPEN));
        for (int pattern : needed) {
            Set<List<Integer>> grown = new HashSet<>();
            for (List<Integer> filling : fillings) {
                grown.addAll(extended(filling, pattern, from));
            }
            fillings = grown;
        }
        if (extra != null) {
            Set<List<Integer>> replaced = new HashSet<>();
            for (List<Integer> filling : fillings) {
                Set<List<Integer>> grown = extended(filling, extra, from);
                replaced.addAll(grown.isEmpty() ? Set.of(filling) : grown);
            }
            fillings = replaced;
        }
        fillings.removeIf(filling -> !keepsAll(filling));
        return fillings;
    }

    /** The filling with the pattern's open variables filled so that the pattern becomes a statement. */
    private static Set<List<Integer>> extended(List<Integer> filling, int pattern, Set<Integer> from) {
        int[] entries = {pattern / 12 / 12, pattern / 12 % 12, pattern % 12};
        Set<List<Integer>> all = new HashSet<>();
        for (int statement : from) {
            int[] fields = {statement >> 5, (statement >> 3) & 3, statement & 7};
            List<Integer> grown = new ArrayList<>(filling);
            boolean good = true;
            for (int i = 0; i < 3; i++) {
                if (entries[i] >= 8 && grown.get(entries[i] - 8) == OPEN) {
                    grown.set(entries[i] - 8, fields[i]);
                }
                int meant = entries[i] >= 8 ? grown.get(entries[i] - 8) : entries[i];
                good = good && meant == fields[i];
            }
            if (good) {
                all.add(grown);
            }
        }
        return all;
    }

    private boolean keepsAll(List<Integer> filling) {
        for (int[] condition : conditions) {
            int first = condition[1] >= 8 ? filling.get(condition[1] - 8) : condition[1];
            int second = condition[2] >= 8 ? filling.get(condition[2] - 8) : condition[2];
            boolean kept = switch (condition[0]) {
                case 0 -> first == second;
                case 1 -> first != second;
                default -> first < second;
            };
            if (first == OPEN || second == OPEN || !kept) {
                return false;
            }
        }
        return true;
    }
}
