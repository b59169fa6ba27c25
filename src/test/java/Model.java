import java.util.ArrayList;
import java.util.List;
import java.util.Map;
import java.util.NavigableMap;
import java.util.TreeMap;

/** The document read off word by word onto a TreeMap, to compare the program with. */
final class Model {
    private static final int NO_KEY = -2000;

    private TreeMap<Integer, Integer> held = new TreeMap<>();

    private static boolean good(long key) {
        return -1000 <= key && key <= 1000;
    }

    private NavigableMap<Integer, Integer> range(int low, int high) {
        return low > high ? new TreeMap<>() : held.subMap(low, true, high, true);
    }

    private static int orNone(Integer key) {
        return key == null ? NO_KEY : key;
    }

    int put(int key, int value) {
        if (!good(key)) {
            return -1;
        }
        if (!held.containsKey(key) && held.size() == 48) {
            return -2;
        }
        return held.put(key, value) == null ? 1 : 0;
    }

    int series(int key, int step, int count, int value) {
        if (!good(key)) {
            return -1;
        }
        if (step < -100 || step > 100) {
            return -2;
        }
        if (count < 1 || count > 48) {
            return -3;
        }
        for (int i = 0; i < count; i++) {
            put(key + i * step, (int) ((long) value + i));
        }
        return held.size();
    }

    int remove(int key) {
        if (!good(key)) {
            return -1;
        }
        return held.remove(key) == null ? -2 : 0;
    }

    int clear(int low, int high) {
        List<Integer> keys = new ArrayList<>(range(low, high).keySet());
        held.keySet().removeAll(keys);
        return keys.size();
    }

    int slide(int low, int high, int by) {
        TreeMap<Integer, Integer> moving = new TreeMap<>(range(low, high));
        for (int key : moving.keySet()) {
            if (!good((long) key + by)) {
                return -1;
            }
        }
        TreeMap<Integer, Integer> after = new TreeMap<>(held);
        after.keySet().removeAll(moving.keySet());
        for (int key : moving.keySet()) {
            if (after.containsKey(key + by)) {
                return -2;
            }
        }
        moving.forEach((key, value) -> after.put(key + by, value));
        held = after;
        return moving.size();
    }

    int raise(int low, int high, int by) {
        NavigableMap<Integer, Integer> range = range(low, high);
        range.replaceAll((key, value) -> (int) ((long) value + by));
        return range.size();
    }

    int size() {
        return held.size();
    }

    int has(int key) {
        return !good(key) ? -1 : held.containsKey(key) ? 1 : 0;
    }

    int get(int key) {
        return held.getOrDefault(key, 0);
    }

    int rank(int bound) {
        return held.headMap(bound, false).size();
    }

    int select(int k) {
        for (int key : held.keySet()) {
            if (rank(key) == k) {
                return key;
            }
        }
        return NO_KEY;
    }

    int next(int from) {
        return orNone(held.higherKey(from));
    }

    int previous(int from) {
        return orNone(held.lowerKey(from));
    }

    int count(int low, int high) {
        return range(low, high).size();
    }

    int sum(int low, int high) {
        return (int) range(low, high).values().stream().mapToLong(Integer::longValue).sum();
    }

    int best(int low, int high) {
        Map.Entry<Integer, Integer> best = null;
        for (Map.Entry<Integer, Integer> each : range(low, high).entrySet()) {
            if (best == null || each.getValue() > best.getValue()) {
                best = each;
            }
        }
        return best == null ? NO_KEY : best.getKey();
    }

    int closest() {
        int least = 0;
        for (int one : held.keySet()) {
            for (int other : held.keySet()) {
                if (other > one && (least == 0 || other - one < least)) {
                    least = other - one;
                }
            }
        }
        return least;
    }

    int gap(int from) {
        for (int k = -1000; k <= 1000; k++) {
            if (k >= from && !held.containsKey(k)) {
                return k;
            }
        }
        return NO_KEY;
    }

    String state() {
        StringBuilder text = new StringBuilder();
        held.forEach((key, value) -> text.append(text.length() == 0 ? "" : " ").append(key).append('=').append(value));
        return text.toString();
    }
}
