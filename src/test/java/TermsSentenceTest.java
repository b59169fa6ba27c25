import java.util.ArrayList;
import java.util.LinkedHashMap;
import java.util.List;
import java.util.Map;
import java.util.function.Supplier;
import java.util.function.ToIntFunction;

/** A method for each sentence of 'What it is', 'Terms' and promise 1 that names a boundary. */
public final class TermsSentenceTest {
    private static final int MIN = Tables.MIN;
    private static final int MAX = Tables.MAX;
    private static final int[] ANY = {
        MIN, MIN + 1, -2000, -1001, -1000, -999, -5, -1, 0, 1, 5, 47, 48, 49, 999, 1000, 1001, 2000, MAX - 1, MAX
    };

    public static void main(String[] args) {
        usedForAtMost512Calls();
        callsAfterThe512thEnd();
        keysAreFromMinus1000To1000();
        heldKeyHasAValueAnInt();
        atMost48KeysAreHeldByPut();
        atMost48KeysAreHeldBySeries();
        atMost48KeysAreHeldAfterPlaceIsMade();
        noneAreHeldAtFirst();
        rangeIsTheHeldKeysFromLowToHigh();
        rangeIsEmptyIfThereAreNone();
        noQuestionChangesAnything();
        refusedCallChangesNothing();
        testsAreMadeInTheOrderNamed();
        keyIsGoodIfItIsFromMinus1000To1000();
        promise1NoKeys();
        Check.end();
    }

    // "An object is used for at most 512 calls after it has been made"
    private static void usedForAtMost512Calls() {
        for (int last = 0; last < 18; last++) {
            PackedArray x = busyFor(511);
            lastCall(x, last);
        }
        PackedArray puts = new PackedArray();
        for (int call = 1; call <= 512; call++) {
            int key = (call - 1) / 2;
            int got = call % 2 == 1 ? puts.put(key, call) : puts.remove(key);
            Tables.due("put or remove as call " + call, got, call % 2);
        }
        PackedArray rows = new PackedArray();
        for (int call = 1; call <= 512; call++) {
            Tables.due("series as call " + call, rows.series(-1000, 1, 48, MAX), 48);
        }
        PackedArray slides = Tables.holding(-256);
        for (int call = 2; call <= 512; call++) {
            Tables.due("slide as call " + call, slides.slide(MIN, MAX, 1), 1);
        }
    }

    /** Holds 1=10 2=20 .. 48=480 after that many calls, of every kind that changes something. */
    private static PackedArray busyFor(int calls) {
        PackedArray x = new PackedArray();
        // The calls below this loop are 49.
        for (int turn = 0; turn < calls - 49; turn++) {
            stir(x, turn);
        }
        x.clear(MIN, MAX);
        for (int key = 1; key <= 46; key++) {
            x.put(key, 10 * key);
        }
        x.series(47, 1, 2, 470);
        x.raise(48, 48, 9);
        return x;
    }

    private static void stir(PackedArray x, int turn) {
        switch (turn % 6) {
            case 0 -> x.series(turn - 500, 7, 48, turn);
            case 1 -> x.slide(-1000, 0, 500);
            case 2 -> x.put(turn, turn);
            case 3 -> x.raise(MIN, MAX, MAX);
            case 4 -> x.remove(turn - 2);
            default -> x.clear(turn - 600, 1000);
        }
    }

    private static void lastCall(PackedArray x, int kind) {
        switch (kind) {
            case 0 -> Tables.due("512th call put", x.put(49, 1), -2);
            case 1 -> Tables.due("512th call series", x.series(1, 1, 48, 0), 48);
            case 2 -> Tables.due("512th call remove", x.remove(48), 0);
            case 3 -> Tables.due("512th call clear", x.clear(2, 48), 47);
            case 4 -> Tables.due("512th call slide", x.slide(1, 48, 952), 48);
            case 5 -> Tables.due("512th call raise", x.raise(1, 48, 1), 48);
            case 6 -> Tables.due("512th call size", x.size(), 48);
            case 7 -> Tables.due("512th call has", x.has(48), 1);
            case 8 -> Tables.due("512th call get", x.get(48), 480);
            case 9 -> Tables.due("512th call rank", x.rank(48), 47);
            case 10 -> Tables.due("512th call select", x.select(47), 48);
            case 11 -> Tables.due("512th call next", x.next(47), 48);
            case 12 -> Tables.due("512th call previous", x.previous(48), 47);
            case 13 -> Tables.due("512th call count", x.count(1, 48), 48);
            case 14 -> Tables.due("512th call sum", x.sum(1, 48), 11760);
            case 15 -> Tables.due("512th call best", x.best(1, 48), 48);
            case 16 -> Tables.due("512th call closest", x.closest(), 1);
            default -> Tables.due("512th call gap", x.gap(1), 49);
        }
    }

    // "what later calls answer is free": but LANGUAGE.md lets no call throw or fail to end.
    private static void callsAfterThe512thEnd() {
        PackedArray x = busyFor(512);
        for (int turn = 0; turn < 100; turn++) {
            stir(x, turn);
            for (ToIntFunction<PackedArray> question : questions(MIN, MAX).values()) {
                question.applyAsInt(x);
            }
        }
    }

    // "KEYS are -1000 .. 1000"
    private static void keysAreFromMinus1000To1000() {
        for (int key = -1100; key <= 1100; key++) {
            boolean isKey = -1000 <= key && key <= 1000;
            PackedArray x = new PackedArray();
            Tables.due("put(" + key + ", 7) as the only key", x.put(key, 7), isKey ? 1 : -1);
            Tables.state("after put(" + key + ", 7)", x, isKey ? key + "=7" : "");
        }
    }

    // "a key that is HELD has a value, an int"
    private static void heldKeyHasAValueAnInt() {
        for (int value : ANY) {
            PackedArray x = new PackedArray();
            Tables.changed("put(0, " + value + ")", x, y -> y.put(0, value), 1, "0=" + value);
            PackedArray z = Tables.pairs(0, 1);
            Tables.changed("put(0, " + value + ") on 0=1", z, y -> y.put(0, value), 0, "0=" + value);
            PackedArray s = new PackedArray();
            Tables.changed("series(0, 1, 1, " + value + ")", s, y -> y.series(0, 1, 1, value), 1, "0=" + value);
        }
    }

    // "At most 48 keys are held"
    private static void atMost48KeysAreHeldByPut() {
        PackedArray x = new PackedArray();
        for (int many = 1; many <= 60; many++) {
            Tables.due("put as key number " + many, x.put(500 - many, many), many <= 48 ? 1 : -2);
            Tables.due("size() after it", x.size(), many <= 48 ? many : 48);
        }
        Tables.due("the 48th key is held", x.has(500 - 48), 1);
        Tables.due("the 49th key is not held", x.has(500 - 49), 0);
    }

    private static void atMost48KeysAreHeldBySeries() {
        for (int before = 0; before <= 48; before++) {
            for (int beside = -1; beside <= 1; beside++) {
                seriesOfRoomAnd(beside, before);
            }
        }
    }

    private static void seriesOfRoomAnd(int beside, int before) {
        int many = 48 - before + beside;
        if (many < 1 || many > 48) {
            return;
        }
        PackedArray x = Tables.row(-1000, 1, before);
        String when = " after series of " + many + " on " + before;
        int after = beside < 0 ? 47 : 48;
        Tables.due("series of " + many + " on " + before, x.series(0, 1, many, 0), after);
        Tables.due("size()" + when, x.size(), after);
        Tables.due("count of the new ones" + when, x.count(0, 1000), after - before);
        Tables.due("has of the last of them" + when, x.has(many - 1), beside > 0 ? 0 : 1);
        Tables.due("series of 48 more" + when, x.series(200, 1, 48, 0), 48);
        Tables.due("how many of these are held" + when, x.count(200, 1000), 48 - after);
    }

    private static void atMost48KeysAreHeldAfterPlaceIsMade() {
        PackedArray removed = Tables.row(0, 1, 48);
        Tables.due("remove makes one place", removed.remove(20), 0);
        Tables.due("which takes one key", removed.put(100, 1), 1);
        Tables.due("and no other", removed.put(101, 1), -2);
        PackedArray cleared = Tables.row(0, 1, 48);
        Tables.due("clear makes two places", cleared.clear(46, 47), 2);
        Tables.due("which take one key", cleared.put(100, 1), 1);
        Tables.due("and one more", cleared.put(101, 1), 1);
        Tables.due("and no third", cleared.put(102, 1), -2);
        PackedArray slid = Tables.row(0, 1, 48);
        Tables.due("slide keeps all 48", slid.slide(0, 47, 100), 48);
        Tables.due("and makes no place", slid.put(0, 1), -2);
        Tables.due("raise makes no place", slid.raise(MIN, MAX, 5), 48);
        Tables.due("so put is refused", slid.put(0, 1), -2);
        Tables.due("size() is still 48", slid.size(), 48);
    }

    // "none at first"
    private static void noneAreHeldAtFirst() {
        PackedArray x = new PackedArray();
        Tables.due("size() at first", x.size(), 0);
        for (int key = -1000; key <= 1000; key += 5) {
            Tables.due("has(" + key + ") at first", x.has(key), 0);
        }
        Tables.due("48 keys have place at first", new PackedArray().series(0, 1, 48, 0), 48);
    }

    // "A RANGE is given by two numbers low and high (any ints) and is the held keys from low to high"
    private static void rangeIsTheHeldKeysFromLowToHigh() {
        int[] keys = {-1000, -5, 0, 5, 1000};
        for (int low : ANY) {
            for (int high : ANY) {
                range(low, high, keys);
            }
        }
        for (int low = -7; low <= 7; low++) {
            for (int high = -7; high <= 7; high++) {
                range(low, high, keys);
            }
        }
    }

    // "it is empty if there are none"
    private static void rangeIsEmptyIfThereAreNone() {
        int[][] empty = {
            {MIN, MIN}, {MIN, -1001}, {-1001, -1001}, {-999, -6}, {-4, -1}, {1, 4}, {1, 1}, {6, 999},
            {1001, 1001}, {1001, MAX}, {MAX, MAX},
            {MAX, MIN}, {1000, -1000}, {1, 0}, {0, -1}, {5, 4}, {6, 5}, {5, 0}, {-999, -1000}, {1000, 999}, {1001, 1000}
        };
        for (int[] ends : empty) {
            range(ends[0], ends[1], -1000, -5, 0, 5, 1000);
        }
        for (int low : ANY) {
            for (int high : ANY) {
                range(low, high);
            }
        }
    }

    /** All six methods that take a range, on a table of these keys, each on a table of its own. */
    private static void range(int low, int high, int... keys) {
        List<Integer> in = new ArrayList<>();
        int sum = 0;
        StringBuilder without = new StringBuilder();
        StringBuilder raised = new StringBuilder();
        for (int key : keys) {
            boolean inside = low <= key && key <= high;
            if (inside) {
                in.add(key);
                sum += 10 * key;
            }
            raised.append(' ').append(key).append('=').append(10 * key + (inside ? 1 : 0));
            without.append(inside ? "" : " " + key + "=" + 10 * key);
        }
        String ends = "(" + low + ", " + high + ") of " + keys.length + " keys";
        Supplier<PackedArray> table = () -> Tables.holding(keys);
        int many = in.size();
        int best = many == 0 ? -2000 : in.get(many - 1);
        Tables.unchanged("count" + ends, table, x -> x.count(low, high), many);
        Tables.unchanged("sum" + ends, table, x -> x.sum(low, high), sum);
        Tables.unchanged("best" + ends, table, x -> x.best(low, high), best);
        Tables.unchanged("slide by 0" + ends, table, x -> x.slide(low, high, 0), many);
        Tables.changed("clear" + ends, table.get(), x -> x.clear(low, high), many, without.toString().trim());
        Tables.changed("raise by 1" + ends, table.get(), x -> x.raise(low, high, 1), many, raised.toString().trim());
        if (many == 0) {
            Tables.unchanged("slide by MAX" + ends, table, x -> x.slide(low, high, MAX), 0);
            Tables.unchanged("slide by MIN" + ends, table, x -> x.slide(low, high, MIN), 0);
        } else {
            slideOfTheRangeAlone(ends, low, high, in, table.get());
        }
    }

    private static void slideOfTheRangeAlone(String ends, int low, int high, List<Integer> in, PackedArray x) {
        boolean tooFar = in.contains(1000);
        int before = x.size();
        Tables.due("slide by 1" + ends, x.slide(low, high, 1), tooFar ? -1 : in.size());
        for (int key : in) {
            Tables.due("has(" + (key + 1) + ") after slide by 1" + ends, x.has(key + 1), key == 1000 ? -1 : tooFar ? 0 : 1);
            Tables.due("has(" + key + ") after slide by 1" + ends, x.has(key), tooFar ? 1 : 0);
        }
        Tables.due("size() after slide by 1" + ends, x.size(), before);
    }

    // "No question changes anything."
    private static void noQuestionChangesAnything() {
        for (Map.Entry<String, Supplier<PackedArray>> kind : Tables.kinds().entrySet()) {
            String before = Tables.view(kind.getValue().get());
            for (int a : ANY) {
                for (int b : new int[] {MIN, -1000, a, 0, 1000, MAX}) {
                    questionsOneByOne(kind.getKey(), kind.getValue(), before, a, b);
                }
            }
        }
    }

    private static void questionsOneByOne(String kind, Supplier<PackedArray> table, String before, int a, int b) {
        PackedArray x = table.get();
        for (ToIntFunction<PackedArray> question : questions(a, b).values()) {
            question.applyAsInt(x);
        }
        Check.due(kind + ", after all questions with " + a + ", " + b, Tables.view(x), before);
        for (Map.Entry<String, ToIntFunction<PackedArray>> question : questions(a, b).entrySet()) {
            PackedArray y = table.get();
            int once = question.getValue().applyAsInt(y);
            int again = question.getValue().applyAsInt(y);
            Tables.due(kind + ", " + question.getKey() + " asked again", again, once);
        }
    }

    private static Map<String, ToIntFunction<PackedArray>> questions(int a, int b) {
        Map<String, ToIntFunction<PackedArray>> all = new LinkedHashMap<>();
        all.put("size()", PackedArray::size);
        all.put("has(" + a + ")", x -> x.has(a));
        all.put("get(" + a + ")", x -> x.get(a));
        all.put("rank(" + a + ")", x -> x.rank(a));
        all.put("select(" + a + ")", x -> x.select(a));
        all.put("next(" + a + ")", x -> x.next(a));
        all.put("previous(" + a + ")", x -> x.previous(a));
        all.put("count(" + a + ", " + b + ")", x -> x.count(a, b));
        all.put("sum(" + a + ", " + b + ")", x -> x.sum(a, b));
        all.put("best(" + a + ", " + b + ")", x -> x.best(a, b));
        all.put("closest()", PackedArray::closest);
        all.put("gap(" + a + ")", x -> x.gap(a));
        return all;
    }

    // "A refused call changes nothing."
    private static void refusedCallChangesNothing() {
        Tables.kinds().forEach(TermsSentenceTest::refusedOfEveryTable);
        Supplier<PackedArray> few = Tables.kinds().get("five held");
        Supplier<PackedArray> full = Tables.kinds().get("48 held");
        Tables.unchanged("put of a 49th key, the least", full, x -> x.put(-1000, 7), -2);
        Tables.unchanged("put of a 49th key, between", full, x -> x.put(1, 7), -2);
        Tables.unchanged("put of a 49th key, the greatest", full, x -> x.put(1000, 7), -2);
        Tables.unchanged("slide of all to 1001", few, x -> x.slide(MIN, MAX, 1), -1);
        Tables.unchanged("slide of all to -1001", few, x -> x.slide(MIN, MAX, -1), -1);
        Tables.unchanged("slide of the last alone to 1001", few, x -> x.slide(-5, 1000, 1), -1);
        Tables.unchanged("slide of the first alone to -1001", few, x -> x.slide(-1000, 5, -1), -1);
        Tables.unchanged("slide of the upper one onto another", few, x -> x.slide(-5, 0, 5), -2);
        Tables.unchanged("slide of the lower one onto another", few, x -> x.slide(0, 5, -5), -2);
        Tables.unchanged("slide of 47 onto the 48th", full, x -> x.slide(-940, 939, 40), -2);
        Tables.unchanged("slide of 48 to 1001", full, x -> x.slide(MIN, MAX, 61), -1);
    }

    private static void refusedOfEveryTable(String kind, Supplier<PackedArray> table) {
        for (int key : Tables.NOT_GOOD) {
            Tables.unchanged(kind + ", put(" + key + ", 7)", table, x -> x.put(key, 7), -1);
            Tables.unchanged(kind + ", series(" + key + ", 1, 48, 7)", table, x -> x.series(key, 1, 48, 7), -1);
            Tables.unchanged(kind + ", remove(" + key + ")", table, x -> x.remove(key), -1);
            Tables.unchanged(kind + ", has(" + key + ")", table, x -> x.has(key), -1);
            Tables.unchanged(kind + ", get(" + key + ")", table, x -> x.get(key), 0);
        }
        for (int step : new int[] {MIN, -102, -101, 101, 102, MAX}) {
            Tables.unchanged(kind + ", series(0, " + step + ", 48, 7)", table, x -> x.series(0, step, 48, 7), -2);
        }
        for (int many : new int[] {MIN, -48, -1, 0, 49, 50, MAX}) {
            Tables.unchanged(kind + ", series(0, 1, " + many + ", 7)", table, x -> x.series(0, 1, many, 7), -3);
        }
        for (int key : new int[] {-999, -901, 1, 999}) {
            Tables.unchanged(kind + ", remove(" + key + "), not held", table, x -> x.remove(key), -2);
        }
    }

    // "In every method the tests are made in the order named"
    private static void testsAreMadeInTheOrderNamed() {
        Supplier<PackedArray> full = Tables.kinds().get("48 held");
        Tables.unchanged("put: not good before full", full, x -> x.put(1001, 7), -1);
        Tables.unchanged("put: not good before full, below", full, x -> x.put(-1001, 7), -1);
        Tables.kinds().forEach((kind, table) -> {
            for (int key : new int[] {-1001, 1001}) {
                Tables.unchanged(kind + ", series: key before step", table, x -> x.series(key, 101, 1, 7), -1);
                Tables.unchanged(kind + ", series: key before count", table, x -> x.series(key, 1, 0, 7), -1);
                Tables.unchanged(kind + ", series: key before both", table, x -> x.series(key, -101, 49, 7), -1);
                Tables.unchanged(kind + ", remove: not good before not held", table, x -> x.remove(key), -1);
                Tables.unchanged(kind + ", has: not good is not 0", table, x -> x.has(key), -1);
            }
            for (int step : new int[] {-101, 101}) {
                Tables.unchanged(kind + ", series: step before count 0", table, x -> x.series(0, step, 0, 7), -2);
                Tables.unchanged(kind + ", series: step before count 49", table, x -> x.series(0, step, 49, 7), -2);
            }
        });
        Supplier<PackedArray> high = () -> Tables.holding(990, 995, 1000);
        Tables.unchanged("slide: the first meets, the second is not good", high, x -> x.slide(990, 995, 10), -1);
        Supplier<PackedArray> low = () -> Tables.holding(-1000, -995, -990);
        Tables.unchanged("slide: the first is not good, the second meets", low, x -> x.slide(-995, -990, -10), -1);
    }

    // "a key is good if it is -1000 .. 1000"
    private static void keyIsGoodIfItIsFromMinus1000To1000() {
        int[] near = {-1002, -1001, -1000, -999, -1, 0, 1, 999, 1000, 1001, 1002, MIN, MAX};
        for (int key : near) {
            boolean good = -1000 <= key && key <= 1000;
            Tables.due("put(" + key + ", 7)", new PackedArray().put(key, 7), good ? 1 : -1);
            Tables.due("series(" + key + ", 0, 1, 7)", new PackedArray().series(key, 0, 1, 7), good ? 1 : -1);
            Tables.due("remove(" + key + ")", new PackedArray().remove(key), good ? -2 : -1);
            Tables.due("remove(" + key + ") if it could be put", Tables.pairs(key, 7).remove(key), good ? 0 : -1);
            Tables.due("has(" + key + ")", new PackedArray().has(key), good ? 0 : -1);
            Tables.due("has(" + key + ") if it could be put", Tables.pairs(key, 7).has(key), good ? 1 : -1);
            Tables.due("get(" + key + ") if it could be put", Tables.pairs(key, 7).get(key), good ? 7 : 0);
            Tables.due("gap(" + key + ")", new PackedArray().gap(key), good ? key : key < 0 ? -1000 : -2000);
        }
    }

    // "No keys."
    private static void promise1NoKeys() {
        for (int any : ANY) {
            boolean good = -1000 <= any && any <= 1000;
            Supplier<PackedArray> none = PackedArray::new;
            String of = "(" + any + ") of a new object";
            Tables.unchanged("size() of a new object", none, PackedArray::size, 0);
            Tables.unchanged("has" + of, none, x -> x.has(any), good ? 0 : -1);
            Tables.unchanged("get" + of, none, x -> x.get(any), 0);
            Tables.unchanged("rank" + of, none, x -> x.rank(any), 0);
            Tables.unchanged("select" + of, none, x -> x.select(any), -2000);
            Tables.unchanged("next" + of, none, x -> x.next(any), -2000);
            Tables.unchanged("previous" + of, none, x -> x.previous(any), -2000);
            Tables.unchanged("remove" + of, none, x -> x.remove(any), good ? -2 : -1);
            Tables.unchanged("closest() of a new object", none, PackedArray::closest, 0);
        }
        Tables.state("of a new object", new PackedArray(), "");
    }
}
