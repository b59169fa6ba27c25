/** A sorted table of keys with values, kept for walking through it in order. */
public final class PackedArray {
    private static final int LEAST_KEY = -1000;
    private static final int GREATEST_KEY = 1000;
    private static final int CAPACITY = 48;
    private static final int GREATEST_STEP = 100;
    private static final int NO_KEY = -2000;

    // The first held places of both arrays are in use, and their keys ascend:
    // so every range is a run of neighbouring places.
    private final int[] keys = new int[CAPACITY];
    private final int[] values = new int[CAPACITY];
    private int held;

    public PackedArray() {
        held = 0;
    }

    public int put(int key, int value) {
        if (!isGood(key)) {
            return -1;
        }
        int place = firstAtLeast(key);
        if (isKeyAt(place, key)) {
            values[place] = value;
            return 0;
        }
        if (held >= CAPACITY) {
            return -2;
        }
        insertAt(place, key, value);
        return 1;
    }

    public int series(int key, int step, int count, int value) {
        if (!isGood(key)) {
            return -1;
        }
        if (step < -GREATEST_STEP || step > GREATEST_STEP) {
            return -2;
        }
        if (count < 1 || count > CAPACITY) {
            return -3;
        }
        // A key that put refuses still uses up its value: the values belong to
        // the places of the series, not to the keys that get in.
        for (int i = 0; i < count; i++) {
            put(key + i * step, value + i);
        }
        return held;
    }

    public int remove(int key) {
        if (!isGood(key)) {
            return -1;
        }
        int place = firstAtLeast(key);
        if (!isKeyAt(place, key)) {
            return -2;
        }
        takeOut(place, place + 1);
        return 0;
    }

    public int clear(int low, int high) {
        int start = firstAtLeast(low);
        int end = endOfRange(start, high);
        takeOut(start, end);
        return end - start;
    }

    public int slide(int low, int high, int by) {
        int start = firstAtLeast(low);
        int end = endOfRange(start, high);
        if (!staysGood(start, end, by)) {
            return -1;
        }
        if (meetsOthers(start, end, by)) {
            return -2;
        }
        for (int i = start; i < end; i++) {
            keys[i] += by;
        }
        sortByKey();
        return end - start;
    }

    public int raise(int low, int high, int by) {
        int start = firstAtLeast(low);
        int end = endOfRange(start, high);
        for (int i = start; i < end; i++) {
            values[i] += by;
        }
        return end - start;
    }

    public int size() {
        return held;
    }

    public int has(int key) {
        if (!isGood(key)) {
            return -1;
        }
        int place = firstAtLeast(key);
        return isKeyAt(place, key) ? 1 : 0;
    }

    public int get(int key) {
        int place = firstAtLeast(key);
        return isKeyAt(place, key) ? values[place] : 0;
    }

    public int rank(int bound) {
        return firstAtLeast(bound);
    }

    public int select(int k) {
        return keyAt(k);
    }

    public int next(int from) {
        int place = endOfRange(0, from);
        return keyAt(place);
    }

    public int previous(int from) {
        int place = firstAtLeast(from);
        return keyAt(place - 1);
    }

    public int count(int low, int high) {
        int start = firstAtLeast(low);
        int end = endOfRange(start, high);
        return end - start;
    }

    public int sum(int low, int high) {
        int start = firstAtLeast(low);
        int end = endOfRange(start, high);
        int total = 0;
        for (int i = start; i < end; i++) {
            total += values[i];
        }
        return total;
    }

    public int best(int low, int high) {
        int start = firstAtLeast(low);
        int end = endOfRange(start, high);
        if (start >= end) {
            return NO_KEY;
        }
        int place = start;
        for (int i = start + 1; i < end; i++) {
            if (values[i] > values[place]) {
                place = i;
            }
        }
        return keys[place];
    }

    public int closest() {
        if (held < 2) {
            return 0;
        }
        // Keys ascend, so the two closest are neighbours.
        int least = keys[1] - keys[0];
        for (int i = 2; i < held; i++) {
            int difference = keys[i] - keys[i - 1];
            if (difference < least) {
                least = difference;
            }
        }
        return least;
    }

    public int gap(int from) {
        int free = from < LEAST_KEY ? LEAST_KEY : from;
        int start = firstAtLeast(free);
        for (int i = start; i < held && keys[i] == free; i++) {
            free++;
        }
        return free <= GREATEST_KEY ? free : NO_KEY;
    }

    // Takes a long, since a key that slide would make may lie beyond the ints.
    private static boolean isGood(long key) {
        return key >= LEAST_KEY && key <= GREATEST_KEY;
    }

    private int firstAtLeast(int bound) {
        int place = 0;
        while (place < held && keys[place] < bound) {
            place++;
        }
        return place;
    }

    // Walks on from the range's start, so that the end is never before it,
    // even where high is less than low.
    private int endOfRange(int start, int high) {
        int place = start;
        while (place < held && keys[place] <= high) {
            place++;
        }
        return place;
    }

    private boolean isKeyAt(int place, int key) {
        return place < held && keys[place] == key;
    }

    private int keyAt(int place) {
        return place >= 0 && place < held ? keys[place] : NO_KEY;
    }

    private void insertAt(int place, int key, int value) {
        for (int i = held; i > place; i--) {
            keys[i] = keys[i - 1];
            values[i] = values[i - 1];
        }
        keys[place] = key;
        values[place] = value;
        held++;
    }

    private void takeOut(int start, int end) {
        int width = end - start;
        for (int i = end; i < held; i++) {
            keys[i - width] = keys[i];
            values[i - width] = values[i];
        }
        held -= width;
    }

    private boolean staysGood(int start, int end, int by) {
        for (int i = start; i < end; i++) {
            long moved = (long) keys[i] + by;
            if (!isGood(moved)) {
                return false;
            }
        }
        return true;
    }

    private boolean meetsOthers(int start, int end, int by) {
        for (int i = start; i < end; i++) {
            int moved = keys[i] + by;
            int place = firstAtLeast(moved);
            boolean inRange = place >= start && place < end;
            if (!inRange && isKeyAt(place, moved)) {
                return true;
            }
        }
        return false;
    }

    // Keys that slide may leap over keys outside the range.
    private void sortByKey() {
        for (int i = 1; i < held; i++) {
            int key = keys[i];
            int value = values[i];
            int place = i;
            while (place > 0 && keys[place - 1] > key) {
                keys[place] = keys[place - 1];
                values[place] = values[place - 1];
                place--;
            }
            keys[place] = key;
            values[place] = value;
        }
    }
}
