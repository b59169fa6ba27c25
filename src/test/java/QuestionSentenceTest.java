import java.util.Arrays;
import java.util.function.Supplier;

/** A method for each sentence of promises 8 to 19, at its boundaries and just beyond them. */
public final class QuestionSentenceTest {
    private static final int MIN = Tables.MIN;
    private static final int MAX = Tables.MAX;

    public static void main(String[] args) {
        sizeHowManyKeysAreHeld();
        has1IfHeldOtherwise0();
        hasMinus1IfKeyIsNotGood();
        getTheValueOfTheKey();
        get0IfKeyIsNotGood();
        get0IfKeyIsNotHeld();
        rankHowManyAreLess();
        rankOfAnyInt();
        selectTheKeyThatJustKAreLessThan();
        selectMinus2000IfThereIsNone();
        nextTheLeastGreaterKey();
        nextOfAnyInt();
        nextMinus2000IfThereIsNone();
        previousTheGreatestLessKey();
        previousOfAnyInt();
        previousMinus2000IfThereIsNone();
        countHowManyKeysARangeHas();
        countOfAnEmptyRange();
        sumOfTheValues();
        sumWrapsLikeAnInt();
        sumOfAnEmptyRange();
        bestTheKeyWithTheGreatestValue();
        bestTheLeastAmongSeveral();
        bestMinus2000IfTheRangeIsEmpty();
        closestTheLeastDifference();
        closest0IfFewerThanTwoAreHeld();
        gapTheLeastGoodKeyNotHeld();
        gapAtLeastFrom();
        gapMinus2000IfThereIsNone();
        gapFromMayBeAnyInt();
        Check.end();
    }

    // "How many keys are held."
    private static void sizeHowManyKeysAreHeld() {
        for (int many = 0; many <= 48; many++) {
            int held = many;
            Supplier<PackedArray> table = () -> Tables.row(-1000, 1, held);
            Tables.unchanged("size() of " + many, table, PackedArray::size, many);
        }
        PackedArray x = Tables.row(0, 1, 48);
        x.put(48, 1);
        Tables.due("size() after a put on 48", x.size(), 48);
        x.put(47, 1);
        Tables.due("size() after a changed value", x.size(), 48);
        x.remove(48);
        Tables.due("size() after a refused remove", x.size(), 48);
        x.remove(47);
        Tables.due("size() after remove", x.size(), 47);
        x.slide(0, 0, 1);
        Tables.due("size() after a refused slide", x.size(), 47);
        x.slide(0, 46, 1);
        Tables.due("size() after slide", x.size(), 47);
        x.clear(MIN, 46);
        Tables.due("size() after clear", x.size(), 1);
        x.clear(MIN, MAX);
        Tables.due("size() after clear of all", x.size(), 0);
        x.remove(47);
        Tables.due("size() after remove from none", x.size(), 0);
    }

    // "1 if the key is held, otherwise 0"
    private static void has1IfHeldOtherwise0() {
        Supplier<PackedArray> table = () -> Tables.holding(-1000, -1, 1, 1000);
        int[] keys = {-1000, -999, -2, -1, 0, 1, 2, 999, 1000};
        int[] wants = {1, 0, 0, 1, 0, 1, 0, 0, 1};
        for (int i = 0; i < keys.length; i++) {
            int key = keys[i];
            Tables.unchanged("has(" + key + ")", table, x -> x.has(key), wants[i]);
            Tables.unchanged("has(" + key + ") of none", PackedArray::new, x -> x.has(key), 0);
        }
        PackedArray full = Tables.row(0, 1, 48);
        int[] fullKeys = {-1, 0, 47, 48};
        int[] fullWants = {0, 1, 1, 0};
        for (int i = 0; i < fullKeys.length; i++) {
            Tables.due("has(" + fullKeys[i] + ") of 48", full.has(fullKeys[i]), fullWants[i]);
        }
        PackedArray x = Tables.pairs(0, 0, 1, -1);
        Tables.due("has(0) with the value 0", x.has(0), 1);
        Tables.due("has(1) with the value -1", x.has(1), 1);
        x.remove(1);
        Tables.due("has(1) after remove", x.has(1), 0);
        x.slide(0, 0, 5);
        Tables.due("has(0) after slide", x.has(0), 0);
        Tables.due("has(5) after slide", x.has(5), 1);
        x.clear(5, 5);
        Tables.due("has(5) after clear", x.has(5), 0);
    }

    // "-1 if key is not good"
    private static void hasMinus1IfKeyIsNotGood() {
        Tables.kinds().forEach((kind, table) -> {
            for (int key : Tables.NOT_GOOD) {
                Tables.unchanged(kind + ", has(" + key + ")", table, x -> x.has(key), -1);
            }
        });
    }

    // "The value of the key"
    private static void getTheValueOfTheKey() {
        Supplier<PackedArray> table = () -> Tables.pairs(-1000, MIN, -1, -1, 0, 0, 1, 1, 1000, MAX);
        int[] keys = {-1000, -1, 0, 1, 1000};
        int[] wants = {MIN, -1, 0, 1, MAX};
        for (int i = 0; i < keys.length; i++) {
            int key = keys[i];
            Tables.unchanged("get(" + key + ")", table, x -> x.get(key), wants[i]);
        }
        PackedArray full = Tables.row(0, 1, 48);
        Tables.due("get of the first of 48", full.get(0), 0);
        Tables.due("get of the second of 48", full.get(1), 1);
        Tables.due("get of the last of 48", full.get(47), 47);
    }

    // "0 if key is not good"
    private static void get0IfKeyIsNotGood() {
        Tables.kinds().forEach((kind, table) -> {
            for (int key : Tables.NOT_GOOD) {
                Tables.unchanged(kind + ", get(" + key + ")", table, x -> x.get(key), 0);
            }
        });
        Supplier<PackedArray> outer = () -> Tables.pairs(-1000, 8, 1000, 9);
        Tables.unchanged("get(-1001) beside -1000", outer, x -> x.get(-1001), 0);
        Tables.unchanged("get(-1000)", outer, x -> x.get(-1000), 8);
        Tables.unchanged("get(1000)", outer, x -> x.get(1000), 9);
        Tables.unchanged("get(1001) beside 1000", outer, x -> x.get(1001), 0);
    }

    // "0 if key is .. not held"
    private static void get0IfKeyIsNotHeld() {
        Supplier<PackedArray> table = () -> Tables.pairs(-999, 5, 0, 6, 999, 7);
        for (int key : new int[] {-1000, -998, -1, 1, 998, 1000}) {
            Tables.unchanged("get(" + key + "), not held", table, x -> x.get(key), 0);
            Tables.unchanged("get(" + key + ") of none", PackedArray::new, x -> x.get(key), 0);
        }
        PackedArray x = table.get();
        x.remove(999);
        Tables.due("get(999) after remove", x.get(999), 0);
        x.clear(-999, -999);
        Tables.due("get(-999) after clear", x.get(-999), 0);
        x.slide(0, 0, 1);
        Tables.due("get(0) after slide", x.get(0), 0);
        PackedArray full = Tables.row(1, 1, 48);
        full.put(49, 9);
        Tables.due("get(49), refused on 48", full.get(49), 0);
        full.remove(48);
        Tables.due("get(48), removed from 48", full.get(48), 0);
    }

    // "How many held keys are less than bound"
    private static void rankHowManyAreLess() {
        Supplier<PackedArray> table = () -> Tables.holding(-1000, -1, 0, 1000);
        int[] bounds = {-1001, -1000, -999, -2, -1, 0, 1, 999, 1000, 1001};
        int[] wants = {0, 0, 1, 1, 1, 2, 3, 3, 3, 4};
        for (int i = 0; i < bounds.length; i++) {
            int bound = bounds[i];
            Tables.unchanged("rank(" + bound + ")", table, x -> x.rank(bound), wants[i]);
        }
        PackedArray full = Tables.row(0, 1, 48);
        for (int bound = -1; bound <= 49; bound++) {
            Tables.due("rank(" + bound + ") of 48", full.rank(bound), bound < 0 ? 0 : bound > 48 ? 48 : bound);
        }
    }

    // "(any int)"
    private static void rankOfAnyInt() {
        Tables.kinds().forEach((kind, table) -> {
            int held = table.get().size();
            for (int bound : Tables.NOT_GOOD) {
                int want = bound < 0 ? 0 : held;
                Tables.unchanged(kind + ", rank(" + bound + ")", table, x -> x.rank(bound), want);
            }
        });
    }

    // "The held key that just k held keys are less than"
    private static void selectTheKeyThatJustKAreLessThan() {
        Supplier<PackedArray> table = () -> Tables.holding(1000, 0, -1, -1000);
        int[] wants = {-1000, -1, 0, 1000};
        for (int i = 0; i < wants.length; i++) {
            int k = i;
            Tables.unchanged("select(" + k + ")", table, x -> x.select(k), wants[i]);
        }
        PackedArray full = Tables.row(953, 1, 48);
        for (int k = 0; k < 48; k++) {
            Tables.due("select(" + k + ") of 48", full.select(k), 953 + k);
        }
    }

    // "-2000 if there is none"
    private static void selectMinus2000IfThereIsNone() {
        Tables.kinds().forEach((kind, table) -> {
            int held = table.get().size();
            for (int k : new int[] {MIN, MIN + 1, -1000, -48, -1, held, held + 1, 48, 49, 1000, MAX - 1, MAX}) {
                Tables.unchanged(kind + ", select(" + k + ")", table, x -> x.select(k), -2000);
            }
        });
        Tables.due("select(0) of one", Tables.holding(7).select(0), 7);
        Tables.due("select(1) of one", Tables.holding(7).select(1), -2000);
        PackedArray x = Tables.row(0, 1, 48);
        x.remove(47);
        Tables.due("select(47) after remove from 48", x.select(47), -2000);
        Tables.due("select(46) after remove from 48", x.select(46), 46);
        x.clear(1, 47);
        Tables.due("select(1) after clear", x.select(1), -2000);
    }

    // "The least held key that is greater than from"
    private static void nextTheLeastGreaterKey() {
        Supplier<PackedArray> table = () -> Tables.holding(-1000, -1, 0, 2, 1000);
        int[] froms = {-1001, -1000, -999, -2, -1, 0, 1, 2, 3, 999};
        int[] wants = {-1000, -1, -1, -1, 0, 2, 2, 1000, 1000, 1000};
        for (int i = 0; i < froms.length; i++) {
            int from = froms[i];
            Tables.unchanged("next(" + from + ")", table, x -> x.next(from), wants[i]);
        }
        PackedArray full = Tables.row(0, 1, 48);
        for (int from = -1; from < 47; from++) {
            Tables.due("next(" + from + ") of 48", full.next(from), from + 1);
        }
    }

    // "(any int)"
    private static void nextOfAnyInt() {
        Tables.kinds().forEach((kind, table) -> {
            int least = table.get().select(0);
            for (int from : Tables.NOT_GOOD) {
                int want = from < 0 ? least : -2000;
                Tables.unchanged(kind + ", next(" + from + ")", table, x -> x.next(from), want);
            }
        });
        Tables.due("next(-2000) is not the answer for none", Tables.holding(-1000).next(-2000), -1000);
    }

    // "-2000 if there is none"
    private static void nextMinus2000IfThereIsNone() {
        for (int from : new int[] {MIN, -1001, -1000, 0, 1000, 1001, MAX}) {
            Tables.unchanged("next(" + from + ") of none", PackedArray::new, x -> x.next(from), -2000);
        }
        Supplier<PackedArray> one = () -> Tables.holding(7);
        Tables.unchanged("next(6) of 7", one, x -> x.next(6), 7);
        Tables.unchanged("next(7) of 7", one, x -> x.next(7), -2000);
        Tables.unchanged("next(8) of 7", one, x -> x.next(8), -2000);
        Supplier<PackedArray> last = () -> Tables.row(953, 1, 48);
        Tables.unchanged("next(999) of 48", last, x -> x.next(999), 1000);
        Tables.unchanged("next(1000) of 48", last, x -> x.next(1000), -2000);
        Tables.unchanged("next(1001) of 48", last, x -> x.next(1001), -2000);
        PackedArray x = last.get();
        x.remove(1000);
        Tables.due("next(999) after remove(1000)", x.next(999), -2000);
    }

    // "The greatest held key that is less than from"
    private static void previousTheGreatestLessKey() {
        Supplier<PackedArray> table = () -> Tables.holding(-1000, -2, 0, 1, 1000);
        int[] froms = {1001, 1000, 999, 2, 1, 0, -1, -2, -3, -999};
        int[] wants = {1000, 1, 1, 1, 0, -2, -2, -1000, -1000, -1000};
        for (int i = 0; i < froms.length; i++) {
            int from = froms[i];
            Tables.unchanged("previous(" + from + ")", table, x -> x.previous(from), wants[i]);
        }
        PackedArray full = Tables.row(0, 1, 48);
        for (int from = 1; from <= 48; from++) {
            Tables.due("previous(" + from + ") of 48", full.previous(from), from - 1);
        }
    }

    // "(any int)"
    private static void previousOfAnyInt() {
        Tables.kinds().forEach((kind, table) -> {
            PackedArray same = table.get();
            int greatest = same.select(same.size() - 1);
            for (int from : Tables.NOT_GOOD) {
                int want = from > 0 ? greatest : -2000;
                Tables.unchanged(kind + ", previous(" + from + ")", table, x -> x.previous(from), want);
            }
        });
    }

    // "-2000 if there is none"
    private static void previousMinus2000IfThereIsNone() {
        for (int from : new int[] {MIN, -1001, -1000, 0, 1000, 1001, MAX}) {
            Tables.unchanged("previous(" + from + ") of none", PackedArray::new, x -> x.previous(from), -2000);
        }
        Supplier<PackedArray> one = () -> Tables.holding(7);
        Tables.unchanged("previous(8) of 7", one, x -> x.previous(8), 7);
        Tables.unchanged("previous(7) of 7", one, x -> x.previous(7), -2000);
        Tables.unchanged("previous(6) of 7", one, x -> x.previous(6), -2000);
        Supplier<PackedArray> first = () -> Tables.row(-1000, 1, 48);
        Tables.unchanged("previous(-999) of 48", first, x -> x.previous(-999), -1000);
        Tables.unchanged("previous(-1000) of 48", first, x -> x.previous(-1000), -2000);
        Tables.unchanged("previous(-1001) of 48", first, x -> x.previous(-1001), -2000);
        PackedArray x = first.get();
        x.remove(-1000);
        Tables.due("previous(-999) after remove(-1000)", x.previous(-999), -2000);
    }

    // "How many keys a range has."
    private static void countHowManyKeysARangeHas() {
        Supplier<PackedArray> table = () -> Tables.holding(-1000, -1, 1, 1000);
        int[][] rows = {
            {MIN, MAX, 4}, {-1000, 1000, 4}, {-999, 1000, 3}, {-1000, 999, 3}, {-999, 999, 2}, {-1, 1, 2}, {0, 1, 1},
            {-1, 0, 1}, {-2, 2, 2}, {1, 1, 1}, {MIN, -1000, 1}, {1000, MAX, 1}, {-1001, 1001, 4}
        };
        for (int[] row : rows) {
            Tables.unchanged("count(" + row[0] + ", " + row[1] + ")", table, x -> x.count(row[0], row[1]), row[2]);
        }
        for (int many = 0; many <= 48; many++) {
            PackedArray full = Tables.row(0, 1, 48);
            Tables.due("count(0, " + (many - 1) + ") of 48", full.count(0, many - 1), many);
            Tables.due("count(" + many + ", 47) of 48", full.count(many, 47), 48 - many);
        }
    }

    private static void countOfAnEmptyRange() {
        Tables.kinds().forEach((kind, table) -> {
            for (int[] row : emptyRanges()) {
                String ends = "(" + row[0] + ", " + row[1] + ")";
                Tables.unchanged(kind + ", count" + ends, table, x -> x.count(row[0], row[1]), 0);
            }
        });
    }

    /** Ranges that are empty in every one of the kinds of tables. */
    private static int[][] emptyRanges() {
        return new int[][] {
            {MAX, MIN}, {MIN, MIN}, {MAX, MAX}, {MIN, -1001}, {1001, MAX}, {1000, -1000}, {1, 0}, {0, -1}, {1, 1}, {1, 4}
        };
    }

    // "The sum of the values of a range's keys"
    private static void sumOfTheValues() {
        Supplier<PackedArray> table = () -> Tables.pairs(-1000, 1, -1, 20, 1, 300, 1000, 4000);
        int[][] rows = {
            {MIN, MAX, 4321}, {-1000, 1000, 4321}, {-999, 1000, 4320}, {-1000, 999, 321}, {-1, 1, 320}, {0, 1, 300},
            {-1, 0, 20}, {1, 1, 300}, {MIN, -1000, 1}, {1000, MAX, 4000}, {-1001, 1001, 4321}
        };
        for (int[] row : rows) {
            Tables.unchanged("sum(" + row[0] + ", " + row[1] + ")", table, x -> x.sum(row[0], row[1]), row[2]);
        }
        Tables.due("sum of 48", Tables.row(0, 1, 48).sum(0, 47), 1128);
        PackedArray x = Tables.row(0, 1, 48);
        x.clear(1, 46);
        Tables.due("sum of what clear has left", x.sum(MIN, MAX), 47);
    }

    // "(wrapping like an int)"
    private static void sumWrapsLikeAnInt() {
        int[][] rows = {
            {MAX, 0, MAX}, {MAX - 1, 1, MAX}, {MAX, 1, MIN}, {MAX, 2, MIN + 1}, {MAX, MAX, -2}, {MIN, 0, MIN},
            {MIN + 1, -1, MIN}, {MIN, -1, MAX}, {MIN, -2, MAX - 1}, {MIN, MIN, 0}, {MAX, MIN, -1}, {MIN, MAX, -1}
        };
        for (int[] row : rows) {
            Supplier<PackedArray> two = () -> Tables.pairs(1, row[0], 2, row[1]);
            Tables.unchanged("sum of " + row[0] + " and " + row[1], two, x -> x.sum(1, 2), row[2]);
        }
        PackedArray greatest = new PackedArray();
        PackedArray least = new PackedArray();
        for (int key = 1; key <= 48; key++) {
            greatest.put(key, MAX);
            least.put(key, MIN);
        }
        Tables.due("sum of 48 times MAX", greatest.sum(1, 48), -48);
        Tables.due("sum of 47 times MAX", greatest.sum(1, 47), MAX - 46);
        Tables.due("sum of 48 times MIN", least.sum(1, 48), 0);
        Tables.due("sum of 47 times MIN", least.sum(1, 47), MIN);
        Tables.due("over MAX and back", Tables.pairs(1, MAX, 2, 5, 3, -5).sum(1, 3), MAX);
    }

    private static void sumOfAnEmptyRange() {
        Tables.kinds().forEach((kind, table) -> {
            for (int[] row : emptyRanges()) {
                String ends = "(" + row[0] + ", " + row[1] + ")";
                Tables.unchanged(kind + ", sum" + ends, table, x -> x.sum(row[0], row[1]), 0);
            }
        });
    }

    // "The key of a range whose value is greatest"
    private static void bestTheKeyWithTheGreatestValue() {
        Supplier<PackedArray> table = () -> Tables.pairs(-1000, 9, -1, 3, 0, 5, 1, 4, 1000, 8);
        int[][] rows = {
            {MIN, MAX, -1000}, {-1000, 1000, -1000}, {-999, 1000, 1000}, {-999, MAX, 1000}, {-999, 999, 0}, {-1, 1, 0},
            {1, 999, 1}, {-1, -1, -1}, {-999, -1, -1}, {1000, 1000, 1000}, {1, 1000, 1000}, {-1000, -1000, -1000}
        };
        for (int[] row : rows) {
            Tables.unchanged("best(" + row[0] + ", " + row[1] + ")", table, x -> x.best(row[0], row[1]), row[2]);
        }
        Tables.due("MIN and MIN + 1", Tables.pairs(1, MIN, 2, MIN + 1).best(1, 2), 2);
        Tables.due("MIN + 1 and MIN", Tables.pairs(1, MIN + 1, 2, MIN).best(1, 2), 1);
        Tables.due("MAX - 1 and MAX", Tables.pairs(1, MAX - 1, 2, MAX).best(1, 2), 2);
        Tables.due("MAX and MAX - 1", Tables.pairs(1, MAX, 2, MAX - 1).best(1, 2), 1);
        Tables.due("MIN and MAX", Tables.pairs(1, MIN, 2, MAX).best(1, 2), 2);
        Tables.due("MAX and MIN", Tables.pairs(1, MAX, 2, MIN).best(1, 2), 1);
        Tables.due("-1 and 0", Tables.pairs(1, -1, 2, 0).best(1, 2), 2);
        Tables.due("MIN alone", Tables.pairs(1, MIN).best(1, 1), 1);
        Tables.due("the last of 48", Tables.row(0, 1, 48).best(0, 47), 47);
        Tables.due("without the last of 48", Tables.row(0, 1, 48).best(0, 46), 46);
        Tables.due("raised over MAX", raisedOverTheTop().best(1, 2), 2);
    }

    private static PackedArray raisedOverTheTop() {
        PackedArray x = Tables.pairs(1, MAX, 2, 0);
        x.raise(1, 1, 1);
        return x;
    }

    // "the least such key among several"
    private static void bestTheLeastAmongSeveral() {
        Supplier<PackedArray> table = () -> Tables.pairs(1000, 9, 5, 9, 0, 1, -5, 9, -1000, 9);
        int[][] rows = {
            {MIN, MAX, -1000}, {-1000, 1000, -1000}, {-999, 1000, -5}, {-4, 1000, 5}, {6, 1000, 1000}, {0, 5, 5}, {-5, 0, -5}
        };
        for (int[] row : rows) {
            Tables.unchanged("best(" + row[0] + ", " + row[1] + ")", table, x -> x.best(row[0], row[1]), row[2]);
        }
        Tables.due("all MIN", Tables.pairs(3, MIN, 2, MIN, 1, MIN).best(1, 3), 1);
        Tables.due("all MAX", Tables.pairs(3, MAX, 2, MAX, 1, MAX).best(1, 3), 1);
        Tables.due("all 0", Tables.pairs(-3, 0, -2, 0, -1, 0).best(-3, -1), -3);
        PackedArray full = new PackedArray();
        for (int key = 47; key >= 0; key--) {
            full.put(key, 7);
        }
        Tables.due("all of 48 the same", full.best(MIN, MAX), 0);
        Tables.due("47 of 48 the same", full.best(1, MAX), 1);
    }

    // "-2000 if the range is empty"
    private static void bestMinus2000IfTheRangeIsEmpty() {
        Tables.kinds().forEach((kind, table) -> {
            for (int[] row : emptyRanges()) {
                String ends = "(" + row[0] + ", " + row[1] + ")";
                Tables.unchanged(kind + ", best" + ends, table, x -> x.best(row[0], row[1]), -2000);
            }
        });
        Supplier<PackedArray> one = () -> Tables.holding(7);
        Tables.unchanged("best(7, 7) of 7", one, x -> x.best(7, 7), 7);
        Tables.unchanged("best(6, 6) of 7", one, x -> x.best(6, 6), -2000);
        Tables.unchanged("best(8, 8) of 7", one, x -> x.best(8, 8), -2000);
        Tables.unchanged("best(8, 6) of 7", one, x -> x.best(8, 6), -2000);
        PackedArray x = Tables.row(0, 1, 48);
        x.remove(47);
        Tables.due("best where the last of 48 was", x.best(47, MAX), -2000);
    }

    // "The least difference of two different held keys"
    private static void closestTheLeastDifference() {
        int[][] rows = {
            {2000, -1000, 1000}, {1999, -1000, 999}, {1, 0, 1}, {1, -1, 0}, {1, 999, 1000}, {1, -1000, -999},
            {1000, -1000, 0, 1000}, {999, -1000, 1, 1000}, {999, -1000, -1, 1000}, {1, -1000, 999, 1000},
            {1, -1000, -999, 1000}, {2, 0, 2, 5, 9}, {2, 0, 4, 6, 9}, {2, 0, 3, 7, 9}, {3, 0, 3, 6, 9}
        };
        for (int[] row : rows) {
            int[] keys = Arrays.copyOfRange(row, 1, row.length);
            String of = "closest() of " + Arrays.toString(keys);
            Tables.unchanged(of, () -> Tables.holding(keys), PackedArray::closest, row[0]);
        }
        Tables.due("closest() of 48", Tables.row(-940, 40, 48).closest(), 40);
        Tables.due("the first two of 48", nudged(-940, 1).closest(), 39);
        Tables.due("the last two of 48", nudged(940, -1).closest(), 39);
        Tables.due("two between of 48", nudged(20, 1).closest(), 39);
    }

    private static PackedArray nudged(int key, int by) {
        PackedArray x = Tables.row(-940, 40, 48);
        x.slide(key, key, by);
        return x;
    }

    // "0 if fewer than two are held"
    private static void closest0IfFewerThanTwoAreHeld() {
        Tables.unchanged("closest() of none", PackedArray::new, PackedArray::closest, 0);
        for (int key : new int[] {-1000, -1, 0, 1, 1000}) {
            Tables.unchanged("closest() of " + key, () -> Tables.holding(key), PackedArray::closest, 0);
        }
        Tables.unchanged("closest() of two", () -> Tables.holding(-1000, 1000), PackedArray::closest, 2000);
        PackedArray x = Tables.holding(3, 4);
        x.remove(4);
        Tables.due("closest() of one of two", x.closest(), 0);
        x.remove(3);
        Tables.due("closest() of none of two", x.closest(), 0);
        PackedArray y = Tables.row(0, 1, 48);
        y.clear(1, 47);
        Tables.due("closest() of one of 48", y.closest(), 0);
        PackedArray z = new PackedArray();
        z.put(5, 1);
        z.put(5, 2);
        z.put(1001, 3);
        Tables.due("closest() of one put twice", z.closest(), 0);
    }

    // "The least key k .. that is good and not held"
    private static void gapTheLeastGoodKeyNotHeld() {
        Supplier<PackedArray> table = () -> Tables.holding(-1000, -999, 3, 4, 6, 998, 999);
        int[] froms = {-1000, -999, -998, 2, 3, 4, 5, 6, 7, 997, 998, 999, 1000};
        int[] wants = {-998, -998, -998, 2, 5, 5, 5, 7, 7, 997, 1000, 1000, 1000};
        for (int i = 0; i < froms.length; i++) {
            int from = froms[i];
            Tables.unchanged("gap(" + from + ")", table, x -> x.gap(from), wants[i]);
        }
        PackedArray x = Tables.row(0, 1, 48);
        Tables.due("gap(0) over 48", x.gap(0), 48);
        Tables.due("gap(47) over the last", x.gap(47), 48);
        Tables.due("gap(-1) before 48", x.gap(-1), -1);
        x.remove(24);
        Tables.due("gap(0) after remove(24)", x.gap(0), 24);
        Tables.due("gap(24) after remove(24)", x.gap(24), 24);
        Tables.due("gap(25) after remove(24)", x.gap(25), 48);
        x.remove(47);
        Tables.due("gap(25) after remove(47)", x.gap(25), 47);
        Tables.due("gap(-1000) over the first 48", Tables.row(-1000, 1, 48).gap(-1000), -952);
    }

    // "at least from"
    private static void gapAtLeastFrom() {
        PackedArray x = new PackedArray();
        for (int from : new int[] {-1000, -999, -1, 0, 1, 999, 1000}) {
            Tables.due("gap(" + from + ") of none", x.gap(from), from);
        }
        PackedArray y = Tables.holding(0, 10);
        Tables.due("gap(9), free keys below", y.gap(9), 9);
        Tables.due("gap(10), free keys below", y.gap(10), 11);
        Tables.due("gap(11), free keys below", y.gap(11), 11);
    }

    // "-2000 if there is none"
    private static void gapMinus2000IfThereIsNone() {
        Supplier<PackedArray> last = () -> Tables.row(953, 1, 48);
        Tables.unchanged("gap(952) before the last 48", last, x -> x.gap(952), 952);
        for (int from : new int[] {953, 954, 999, 1000, 1001, MAX}) {
            Tables.unchanged("gap(" + from + ") over the last 48", last, x -> x.gap(from), -2000);
        }
        Tables.unchanged("gap(1000), held", () -> Tables.holding(1000), x -> x.gap(1000), -2000);
        Tables.unchanged("gap(999), 1000 held", () -> Tables.holding(1000), x -> x.gap(999), 999);
        Tables.unchanged("gap(999), 999 held", () -> Tables.holding(999), x -> x.gap(999), 1000);
        Tables.unchanged("gap(999), both held", () -> Tables.holding(999, 1000), x -> x.gap(999), -2000);
        Tables.kinds().forEach((kind, table) ->
            Tables.unchanged(kind + ", gap(1001)", table, x -> x.gap(1001), -2000));
    }

    // "(from may be any int)"
    private static void gapFromMayBeAnyInt() {
        Tables.kinds().forEach((kind, table) -> {
            int first = table.get().has(-1000) == 1 ? -999 : -1000;
            for (int from : Tables.NOT_GOOD) {
                int want = from < 0 ? first : -2000;
                Tables.unchanged(kind + ", gap(" + from + ")", table, x -> x.gap(from), want);
            }
        });
        Supplier<PackedArray> low = () -> Tables.row(-1000, 1, 48);
        for (int from : new int[] {MIN, MIN + 1, -2000, -1001, -1000}) {
            Tables.unchanged("gap(" + from + ") over the first 48", low, x -> x.gap(from), -952);
        }
    }
}
