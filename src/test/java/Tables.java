import java.util.LinkedHashMap;
import java.util.Map;
import java.util.function.Supplier;
import java.util.function.ToIntFunction;

/** Tables to begin a test with, and the comparisons that the tests of the sentences share. */
final class Tables {
    static final int MIN = Integer.MIN_VALUE;
    static final int MAX = Integer.MAX_VALUE;
    /** Both sides of every end of the good keys, and the ends of the ints. */
    static final int[] NOT_GOOD = {MIN, MIN + 1, -2001, -2000, -1002, -1001, 1001, 1002, 2000, 2001, MAX - 1, MAX};

    private Tables() {
    }

    /** Holds the given keys, each with ten times its key as its value. */
    static PackedArray holding(int... keys) {
        PackedArray x = new PackedArray();
        for (int key : keys) {
            x.put(key, 10 * key);
        }
        return x;
    }

    /** Holds the given keys with the given values: key, value, key, value, .. */
    static PackedArray pairs(int... keysAndValues) {
        PackedArray x = new PackedArray();
        for (int i = 0; i < keysAndValues.length; i += 2) {
            x.put(keysAndValues[i], keysAndValues[i + 1]);
        }
        return x;
    }

    /** Holds many keys, first, first + step, .., with the values 0, 1, .. */
    static PackedArray row(int first, int step, int many) {
        PackedArray x = new PackedArray();
        for (int i = 0; i < many; i++) {
            x.put(first + i * step, i);
        }
        return x;
    }

    /** No key, a few with both outer ones, one short of full, and full: by put alone, without series. */
    static Map<String, Supplier<PackedArray>> kinds() {
        Map<String, Supplier<PackedArray>> kinds = new LinkedHashMap<>();
        kinds.put("none held", PackedArray::new);
        kinds.put("five held", () -> holding(-1000, -5, 0, 5, 1000));
        kinds.put("47 held", () -> row(-920, 40, 47));
        kinds.put("48 held", () -> row(-940, 40, 48));
        return kinds;
    }

    /** Everything that questions tell of a table, in some 150 calls at most. */
    static String view(PackedArray x) {
        StringBuilder text = new StringBuilder(Check.state(x)).append(" | next:");
        int key = x.next(MIN);
        for (int i = 0; i < 49 && key != -2000; i++) {
            text.append(' ').append(key);
            key = x.next(key);
        }
        return text.append(" | count ").append(x.count(MIN, MAX))
            .append(" sum ").append(x.sum(MIN, MAX))
            .append(" best ").append(x.best(MIN, MAX))
            .append(" closest ").append(x.closest())
            .append(" gap ").append(x.gap(MIN)).toString();
    }

    static void due(String call, int got, int want) {
        Check.due(call, got, want);
    }

    static void state(String when, PackedArray x, String want) {
        Check.due("state " + when, Check.state(x), want);
    }

    /** The call answers want, and the table is then the same as one that never got it. */
    static void unchanged(String call, Supplier<PackedArray> table, ToIntFunction<PackedArray> made, int want) {
        PackedArray x = table.get();
        due(call, made.applyAsInt(x), want);
        Check.due("what is held after " + call, view(x), view(table.get()));
    }

    /** The call answers want, and then the table holds just what state says. */
    static void changed(String call, PackedArray x, ToIntFunction<PackedArray> made, int want, String state) {
        due(call, made.applyAsInt(x), want);
        state("after " + call, x, state);
    }
}
