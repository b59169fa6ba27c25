/** One method for each promise of the document, each with its edges and wrong inputs. */
public final class PromiseTest {
    private static final int MIN = Integer.MIN_VALUE;
    private static final int MAX = Integer.MAX_VALUE;

    public static void main(String[] args) {
        promise1NewObject();
        promise2Put();
        promise2PutWhenFull();
        promise3Series();
        promise3SeriesRefused();
        promise3SeriesLeavesOut();
        promise4Remove();
        promise5Clear();
        promise6Slide();
        promise6SlideOutOfTheGoodKeys();
        promise6SlideOntoOthers();
        promise6SlideTestsInOrder();
        promise7Raise();
        promise8Size();
        promise9Has();
        promise10Get();
        promise11Rank();
        promise12Select();
        promise13Next();
        promise14Previous();
        promise15Count();
        promise16Sum();
        promise17Best();
        promise18Closest();
        promise19Gap();
        promise20Wrapping();
        questionsChangeNothing();
        objectsAreApart();
        Check.end();
    }

    private static void due(String call, int got, int want) {
        Check.due(call, got, want);
    }

    private static void state(String when, PackedArray x, String want) {
        Check.due("state " + when, Check.state(x), want);
    }

    /** Holds the given keys, each with ten times its key as its value. */
    private static PackedArray holding(int... keys) {
        PackedArray x = new PackedArray();
        for (int key : keys) {
            x.put(key, 10 * key);
        }
        return x;
    }

    /** Holds 48 keys from first on, the first with the value 0, the next with 1, .. */
    private static PackedArray full(int first) {
        PackedArray x = new PackedArray();
        for (int i = 0; i < 48; i++) {
            x.put(first + i, i);
        }
        return x;
    }

    private static void promise1NewObject() {
        PackedArray x = new PackedArray();
        due("1 size()", x.size(), 0);
        due("1 count(MIN, MAX)", x.count(MIN, MAX), 0);
        due("1 has(0)", x.has(0), 0);
        due("1 select(0)", x.select(0), -2000);
        due("1 next(MIN)", x.next(MIN), -2000);
        due("1 gap(-1000)", x.gap(-1000), -1000);
        due("1 gap(0)", x.gap(0), 0);
    }

    private static void promise2Put() {
        PackedArray x = new PackedArray();
        due("2 put(5, 50)", x.put(5, 50), 1);
        due("2 put(-5, MIN)", x.put(-5, MIN), 1);
        due("2 put(0, MAX)", x.put(0, MAX), 1);
        due("2 put(1000, 1)", x.put(1000, 1), 1);
        due("2 put(-1000, 2)", x.put(-1000, 2), 1);
        String five = "-1000=2 -5=-2147483648 0=2147483647 5=50 1000=1";
        state("2 after five puts", x, five);
        for (int key : new int[] {1001, -1001, 2000, -2000, MAX, MIN}) {
            due("2 put(" + key + ", 3)", x.put(key, 3), -1);
        }
        state("2 after refused puts", x, five);
        due("2 put(5, 51)", x.put(5, 51), 0);
        due("2 put(5, 51) again", x.put(5, 51), 0);
        due("2 put(-1000, 0)", x.put(-1000, 0), 0);
        due("2 put(1000, -1)", x.put(1000, -1), 0);
        state("2 after changes", x, "-1000=0 -5=-2147483648 0=2147483647 5=51 1000=-1");
    }

    private static void promise2PutWhenFull() {
        PackedArray x = new PackedArray();
        for (int i = 0; i < 47; i++) {
            due("2 put of key " + i, x.put(2 * i, i), 1);
        }
        due("2 put of the 48th key", x.put(1000, 7), 1);
        due("2 put of a 49th key, least", x.put(-1, 7), -2);
        due("2 put of a 49th key, between", x.put(3, 7), -2);
        due("2 put of a 49th key, greatest", x.put(999, 7), -2);
        due("2 a bad key when full", x.put(1001, 7), -1);
        due("2 size when full", x.size(), 48);
        due("2 has(3)", x.has(3), 0);
        due("2 change of the least when full", x.put(0, 70), 0);
        due("2 change of the greatest when full", x.put(1000, 71), 0);
        due("2 get(0)", x.get(0), 70);
        due("2 get(1000)", x.get(1000), 71);
        due("2 remove(4)", x.remove(4), 0);
        due("2 put(3, 8) after remove", x.put(3, 8), 1);
        due("2 put(4, 8) when full again", x.put(4, 8), -2);
        due("2 get(3)", x.get(3), 8);
        due("2 get(6)", x.get(6), 3);
    }

    private static void promise3Series() {
        PackedArray x = new PackedArray();
        due("3 series up", x.series(10, 3, 3, 5), 3);
        state("3 up", x, "10=5 13=6 16=7");
        due("3 series down", x.series(15, -1, 3, -1), 5);
        state("3 down", x, "10=5 13=1 14=0 15=-1 16=7");
        due("3 series of one", x.series(-1000, 100, 1, 9), 6);
        due("3 series with step 0", x.series(-1000, 0, 4, 20), 6);
        due("3 get of step 0: the last value stays", x.get(-1000), 23);
        PackedArray y = new PackedArray();
        due("3 count 48", y.series(-1000, 1, 48, 0), 48);
        due("3 select(47)", y.select(47), -953);
        due("3 get(-953)", y.get(-953), 47);
        PackedArray z = new PackedArray();
        due("3 step 100", z.series(-1000, 100, 21, 0), 21);
        due("3 step -100", z.series(1000, -100, 21, 0), 21);
        due("3 get(-1000)", z.get(-1000), 20);
        due("3 get(1000)", z.get(1000), 0);
    }

    private static void promise3SeriesRefused() {
        PackedArray x = holding(1, 2);
        due("3 key 1001", x.series(1001, 1, 1, 0), -1);
        due("3 key -1001", x.series(-1001, 1, 5, 0), -1);
        due("3 key MAX", x.series(MAX, 1, 5, 0), -1);
        due("3 key MIN", x.series(MIN, 1, 5, 0), -1);
        due("3 step 101", x.series(0, 101, 1, 0), -2);
        due("3 step -101", x.series(0, -101, 1, 0), -2);
        due("3 step MAX", x.series(0, MAX, 1, 0), -2);
        due("3 step MIN", x.series(0, MIN, 1, 0), -2);
        due("3 count 0", x.series(0, 1, 0, 0), -3);
        due("3 count -1", x.series(0, 1, -1, 0), -3);
        due("3 count 49", x.series(0, 1, 49, 0), -3);
        due("3 count MAX", x.series(0, 1, MAX, 0), -3);
        due("3 count MIN", x.series(0, 1, MIN, 0), -3);
        due("3 all wrong", x.series(1001, 101, 0, 0), -1);
        due("3 key and count wrong", x.series(-1001, 1, 49, 0), -1);
        due("3 step and count wrong", x.series(0, -101, 49, 0), -2);
        state("3 after refused series", x, "1=10 2=20");
    }

    private static void promise3SeriesLeavesOut() {
        PackedArray x = new PackedArray();
        due("3 beyond 1000", x.series(999, 1, 5, 7), 2);
        due("3 beyond -1000", x.series(-950, -50, 48, 1), 4);
        state("3 bad keys left out", x, "-1000=2 -950=1 999=7 1000=8");

        PackedArray y = full(0);
        y.remove(47);
        due("3 into the last place", y.series(100, 1, 3, 500), 48);
        due("3 has(100)", y.has(100), 1);
        due("3 has(101)", y.has(101), 0);
        due("3 has(102)", y.has(102), 0);

        PackedArray z = full(0);
        due("3 full, then held keys", z.series(-2, 1, 4, 600), 48);
        due("3 has(-2)", z.has(-2), 0);
        due("3 has(-1)", z.has(-1), 0);
        due("3 held key changed when full", z.get(0), 602);
        due("3 next held key changed when full", z.get(1), 603);
        due("3 key after the series", z.get(2), 2);
    }

    private static void promise4Remove() {
        PackedArray x = holding(-1000, -3, 0, 4, 1000);
        due("4 remove(1001)", x.remove(1001), -1);
        due("4 remove(-1001)", x.remove(-1001), -1);
        due("4 remove(MAX)", x.remove(MAX), -1);
        due("4 remove(MIN)", x.remove(MIN), -1);
        due("4 remove(1)", x.remove(1), -2);
        due("4 remove(-999)", x.remove(-999), -2);
        due("4 remove(999)", x.remove(999), -2);
        state("4 after refused removes", x, "-1000=-10000 -3=-30 0=0 4=40 1000=10000");
        due("4 remove(0)", x.remove(0), 0);
        due("4 remove(0) again", x.remove(0), -2);
        due("4 has(0)", x.has(0), 0);
        state("4 after remove(0)", x, "-1000=-10000 -3=-30 4=40 1000=10000");
        due("4 remove(-1000)", x.remove(-1000), 0);
        due("4 remove(1000)", x.remove(1000), 0);
        state("4 without the outer keys", x, "-3=-30 4=40");
        due("4 remove(-3)", x.remove(-3), 0);
        due("4 remove(4)", x.remove(4), 0);
        due("4 size()", x.size(), 0);
        due("4 remove(4) from none", x.remove(4), -2);
        PackedArray y = full(0);
        due("4 remove the greatest of 48", y.remove(47), 0);
        due("4 remove it again", y.remove(47), -2);
        due("4 size after", y.size(), 47);
    }

    private static void promise5Clear() {
        PackedArray x = holding(-1000, -3, 0, 4, 8, 1000);
        due("5 clear(1, 3)", x.clear(1, 3), 0);
        due("5 clear(4, 0), low above high", x.clear(4, 0), 0);
        due("5 clear(MAX, MIN)", x.clear(MAX, MIN), 0);
        due("5 clear(1001, MAX)", x.clear(1001, MAX), 0);
        due("5 clear(MIN, -1001)", x.clear(MIN, -1001), 0);
        state("5 after empty ranges", x, "-1000=-10000 -3=-30 0=0 4=40 8=80 1000=10000");
        due("5 clear(0, 4)", x.clear(0, 4), 2);
        state("5 after clear(0, 4)", x, "-1000=-10000 -3=-30 8=80 1000=10000");
        due("5 clear(8, 8)", x.clear(8, 8), 1);
        due("5 clear(5, MAX)", x.clear(5, MAX), 1);
        state("5 after clear(5, MAX)", x, "-1000=-10000 -3=-30");
        due("5 clear(MIN, -4)", x.clear(MIN, -4), 1);
        state("5 after clear(MIN, -4)", x, "-3=-30");
        due("5 clear(MIN, MAX)", x.clear(MIN, MAX), 1);
        due("5 size()", x.size(), 0);
        PackedArray y = full(0);
        due("5 clear all of 48", y.clear(0, 47), 48);
        due("5 clear all again", y.clear(0, 47), 0);
        due("5 put after clear", y.put(3, 3), 1);
        state("5 after all that", y, "3=3");
    }

    private static void promise6Slide() {
        PackedArray x = holding(1, 2, 3, 10, 20);
        due("6 slide(1, 3, 1)", x.slide(1, 3, 1), 3);
        state("6 onto its own keys, up", x, "2=10 3=20 4=30 10=100 20=200");
        due("6 slide(2, 4, -1)", x.slide(2, 4, -1), 3);
        state("6 onto its own keys, down", x, "1=10 2=20 3=30 10=100 20=200");
        due("6 slide(1, 3, 10)", x.slide(1, 3, 10), 3);
        state("6 over another key, up", x, "10=100 11=10 12=20 13=30 20=200");
        due("6 slide(12, 20, -12)", x.slide(12, 20, -12), 3);
        state("6 among other keys, down", x, "0=20 1=30 8=200 10=100 11=10");
        due("6 slide(0, 5, 9) meets 10", x.slide(0, 5, 9), -2);
        due("6 slide(0, 1, 6)", x.slide(0, 1, 6), 2);
        state("6 up to a neighbour", x, "6=20 7=30 8=200 10=100 11=10");
        due("6 slide(MIN, MAX, 0)", x.slide(MIN, MAX, 0), 5);
        due("6 slide(9, 9, MAX) of none", x.slide(9, 9, MAX), 0);
        due("6 slide(9, 9, MIN) of none", x.slide(9, 9, MIN), 0);
        due("6 slide(11, 6, 1), low above high", x.slide(11, 6, 1), 0);
        due("6 slide(MAX, MIN, MAX)", x.slide(MAX, MIN, MAX), 0);
        state("6 after slides of none", x, "6=20 7=30 8=200 10=100 11=10");
        due("6 all by 989", x.slide(6, 11, 989), 5);
        state("6 up to 1000", x, "995=20 996=30 997=200 999=100 1000=10");
        due("6 all by -1995", x.slide(MIN, MAX, -1995), 5);
        state("6 down to -1000", x, "-1000=20 -999=30 -998=200 -996=100 -995=10");
        PackedArray y = holding(-1000);
        due("6 by 2000", y.slide(-1000, -1000, 2000), 1);
        due("6 by -2000", y.slide(1000, 1000, -2000), 1);
        state("6 there and back", y, "-1000=-10000");
        PackedArray two = holding(1, 2);
        due("6 the first of two over the second", two.slide(1, 1, 5), 1);
        state("6 two in order", two, "2=20 6=10");
        PackedArray z = full(0);
        due("6 the lower half over the upper", z.slide(0, 23, 48), 24);
        due("6 select(0)", z.select(0), 24);
        due("6 select(47)", z.select(47), 71);
        due("6 get(71)", z.get(71), 23);
    }

    private static void promise6SlideOutOfTheGoodKeys() {
        PackedArray x = holding(-1000, 0, 999);
        String before = "-1000=-10000 0=0 999=9990";
        due("6 greatest to 1001", x.slide(0, 999, 2), -1);
        due("6 least to -1001", x.slide(-1000, 0, -1), -1);
        due("6 one to 1001", x.slide(0, 0, 1001), -1);
        due("6 one to -1001", x.slide(0, 0, -1001), -1);
        due("6 by MAX", x.slide(-1000, 999, MAX), -1);
        due("6 by MIN", x.slide(-1000, 999, MIN), -1);
        due("6 999 by MAX", x.slide(999, 999, MAX), -1);
        due("6 -1000 by MIN", x.slide(-1000, -1000, MIN), -1);
        due("6 -1000 by MAX", x.slide(-1000, -1000, MAX), -1);
        state("6 after refused slides", x, before);
        due("6 to 1000", x.slide(0, 999, 1), 2);
        state("6 to 1000", x, "-1000=-10000 1=0 1000=9990");
    }

    private static void promise6SlideOntoOthers() {
        PackedArray x = holding(1, 2, 5, 9);
        due("6 onto the next", x.slide(1, 2, 3), -2);
        due("6 onto the one before", x.slide(5, 9, -3), -2);
        due("6 the first alone onto its neighbour", x.slide(1, 1, 1), -2);
        due("6 the last alone onto its neighbour", x.slide(9, 9, -4), -2);
        due("6 the last onto the first", x.slide(9, 9, -8), -2);
        due("6 only the lower one meets", x.slide(1, 2, 8), -2);
        state("6 after slides onto others", x, "1=10 2=20 5=50 9=90");
    }

    private static void promise6SlideTestsInOrder() {
        PackedArray x = holding(990, 995, 1000);
        due("6 one meets, a later one is not good", x.slide(990, 995, 10), -1);
        PackedArray y = holding(-1000, -995, -990);
        due("6 one is not good, a later one meets", y.slide(-995, -990, -10), -1);
        state("6 x stays", x, "990=9900 995=9950 1000=10000");
        state("6 y stays", y, "-1000=-10000 -995=-9950 -990=-9900");
    }

    private static void promise7Raise() {
        PackedArray x = holding(-1000, -3, 0, 4, 1000);
        due("7 raise(-3, 4, 7)", x.raise(-3, 4, 7), 3);
        state("7 after raise by 7", x, "-1000=-10000 -3=-23 0=7 4=47 1000=10000");
        due("7 raise(-2, 3, -7)", x.raise(-2, 3, -7), 1);
        due("7 raise(MIN, MAX, 1)", x.raise(MIN, MAX, 1), 5);
        state("7 after raise of all", x, "-1000=-9999 -3=-22 0=1 4=48 1000=10001");
        due("7 raise(1, 3, 9) of none", x.raise(1, 3, 9), 0);
        due("7 raise(4, -3, 9), low above high", x.raise(4, -3, 9), 0);
        due("7 raise(MAX, MIN, 9)", x.raise(MAX, MIN, 9), 0);
        due("7 raise(0, 0, MAX) wraps", x.raise(0, 0, MAX), 1);
        due("7 raise(-3, -3, MIN) wraps", x.raise(-3, -3, MIN), 1);
        state("7 after wrapping", x, "-1000=-9999 -3=2147483626 0=-2147483648 4=48 1000=10001");
        due("7 raise(MIN, MAX, 0)", x.raise(MIN, MAX, 0), 5);
        due("7 raise of a new object", new PackedArray().raise(MIN, MAX, 1), 0);
    }

    private static void promise8Size() {
        PackedArray x = new PackedArray();
        due("8 of none", x.size(), 0);
        x.put(3, 0);
        due("8 of one", x.size(), 1);
        x.put(3, 1);
        due("8 after a change", x.size(), 1);
        x.put(1001, 1);
        due("8 after a refused put", x.size(), 1);
        x.series(100, 1, 47, 0);
        due("8 of 48", x.size(), 48);
        x.put(4, 1);
        due("8 after a put when full", x.size(), 48);
        x.remove(3);
        due("8 after remove", x.size(), 47);
        x.slide(100, 120, 500);
        due("8 after slide", x.size(), 47);
        x.clear(600, 609);
        due("8 after clear", x.size(), 37);
        x.clear(MIN, MAX);
        due("8 after clear of all", x.size(), 0);
    }

    private static void promise9Has() {
        PackedArray x = holding(-1000, 0, 7, 1000);
        for (int key : new int[] {-1000, 0, 7, 1000}) {
            due("9 has(" + key + ")", x.has(key), 1);
        }
        for (int key : new int[] {-999, -1, 1, 6, 8, 999}) {
            due("9 has(" + key + ")", x.has(key), 0);
        }
        for (int key : new int[] {-1001, 1001, -2000, 2000, MIN, MAX}) {
            due("9 has(" + key + ")", x.has(key), -1);
        }
        due("9 remove(7)", x.remove(7), 0);
        due("9 has(7) after remove", x.has(7), 0);
        due("9 a key with the value 0", x.put(7, 0), 1);
        due("9 has(7) with the value 0", x.has(7), 1);
    }

    private static void promise10Get() {
        PackedArray x = new PackedArray();
        due("10 get(0) of none", x.get(0), 0);
        x.put(-1000, MIN);
        x.put(5, -1);
        x.put(1000, MAX);
        due("10 get(-1000)", x.get(-1000), MIN);
        due("10 get(5)", x.get(5), -1);
        due("10 get(1000)", x.get(1000), MAX);
        for (int key : new int[] {-999, 4, 6, 999, -1001, 1001, MIN, MAX}) {
            due("10 get(" + key + ")", x.get(key), 0);
        }
        x.remove(1000);
        due("10 get(1000) after remove", x.get(1000), 0);
    }

    private static void promise11Rank() {
        PackedArray x = holding(-1000, 0, 7, 1000);
        int[] bounds = {MIN, -1001, -1000, -999, 0, 1, 7, 8, 1000, 1001, MAX};
        int[] wants = {0, 0, 0, 1, 1, 2, 2, 3, 3, 4, 4};
        for (int i = 0; i < bounds.length; i++) {
            due("11 rank(" + bounds[i] + ")", x.rank(bounds[i]), wants[i]);
        }
        due("11 rank of none", new PackedArray().rank(MAX), 0);
        due("11 rank of 48", full(0).rank(MAX), 48);
    }

    private static void promise12Select() {
        PackedArray x = holding(7, 1000, -1000, 0);
        due("12 select(0)", x.select(0), -1000);
        due("12 select(1)", x.select(1), 0);
        due("12 select(2)", x.select(2), 7);
        due("12 select(3)", x.select(3), 1000);
        for (int k : new int[] {4, 47, 48, 49, -1, MIN, MAX}) {
            due("12 select(" + k + ")", x.select(k), -2000);
        }
        PackedArray y = full(953);
        due("12 select(47) of 48", y.select(47), 1000);
        due("12 select(48) of 48", y.select(48), -2000);
        y.remove(1000);
        due("12 select(47) of 47", y.select(47), -2000);
    }

    private static void promise13Next() {
        PackedArray x = holding(-1000, 0, 7, 1000);
        int[] froms = {MIN, -1001, -1000, -1, 0, 6, 7, 999, 1000, 1001, MAX};
        int[] wants = {-1000, -1000, 0, 0, 7, 7, 1000, 1000, -2000, -2000, -2000};
        for (int i = 0; i < froms.length; i++) {
            due("13 next(" + froms[i] + ")", x.next(froms[i]), wants[i]);
        }
        due("13 next of none", new PackedArray().next(MIN), -2000);
        due("13 next after the last of 48", full(0).next(47), -2000);
    }

    private static void promise14Previous() {
        PackedArray x = holding(-1000, 0, 7, 1000);
        int[] froms = {MAX, 1001, 1000, 8, 7, 1, 0, -999, -1000, -1001, MIN};
        int[] wants = {1000, 1000, 7, 7, 0, 0, -1000, -1000, -2000, -2000, -2000};
        for (int i = 0; i < froms.length; i++) {
            due("14 previous(" + froms[i] + ")", x.previous(froms[i]), wants[i]);
        }
        due("14 previous of none", new PackedArray().previous(MAX), -2000);
        due("14 previous to all of 48", full(0).previous(MAX), 47);
    }

    private static void promise15Count() {
        PackedArray x = holding(-1000, 0, 7, 1000);
        due("15 count(MIN, MAX)", x.count(MIN, MAX), 4);
        due("15 count(-1000, 1000)", x.count(-1000, 1000), 4);
        due("15 count(-999, 999)", x.count(-999, 999), 2);
        due("15 count(0, 7)", x.count(0, 7), 2);
        due("15 count(0, 6)", x.count(0, 6), 1);
        due("15 count(1, 7)", x.count(1, 7), 1);
        due("15 count(1, 6)", x.count(1, 6), 0);
        due("15 count(7, 7)", x.count(7, 7), 1);
        due("15 count(7, 0)", x.count(7, 0), 0);
        due("15 count(MAX, MIN)", x.count(MAX, MIN), 0);
        due("15 count(1001, MAX)", x.count(1001, MAX), 0);
        due("15 count(MIN, -1001)", x.count(MIN, -1001), 0);
        due("15 count of 48", full(0).count(0, 47), 48);
    }

    private static void promise16Sum() {
        PackedArray x = holding(-1000, 1, 7, 1000);
        due("16 sum(MIN, MAX)", x.sum(MIN, MAX), 80);
        due("16 sum(1, 7)", x.sum(1, 7), 80);
        due("16 sum(1, 6)", x.sum(1, 6), 10);
        due("16 sum(2, 7)", x.sum(2, 7), 70);
        due("16 sum(2, 6)", x.sum(2, 6), 0);
        due("16 sum(7, 1)", x.sum(7, 1), 0);
        due("16 sum(MAX, MIN)", x.sum(MAX, MIN), 0);
        due("16 sum(-1000, 1)", x.sum(-1000, 1), -9990);
        PackedArray y = new PackedArray();
        y.put(1, MAX);
        y.put(2, MAX);
        y.put(3, MIN);
        y.put(4, MIN);
        due("16 two MAX", y.sum(1, 2), -2);
        due("16 two MIN", y.sum(3, 4), 0);
        due("16 MIN and MAX", y.sum(2, 3), -1);
        due("16 all four", y.sum(1, 4), -2);
    }

    private static void promise17Best() {
        PackedArray x = new PackedArray();
        due("17 best of none", x.best(MIN, MAX), -2000);
        x.put(-1000, -7);
        x.put(1, 5);
        x.put(2, 9);
        x.put(3, 9);
        x.put(4, 6);
        x.put(1000, 9);
        due("17 the least of three", x.best(MIN, MAX), 2);
        due("17 the least of two", x.best(3, 1000), 3);
        due("17 the last", x.best(4, 1000), 1000);
        due("17 the first", x.best(4, 999), 4);
        due("17 one below 0", x.best(-1000, -1000), -1000);
        due("17 best(-1000, 1)", x.best(-1000, 1), 1);
        due("17 best(5, 999) of none", x.best(5, 999), -2000);
        due("17 best(4, 1), low above high", x.best(4, 1), -2000);
        due("17 best(MAX, MIN)", x.best(MAX, MIN), -2000);
        PackedArray y = new PackedArray();
        y.put(1, MIN);
        y.put(2, MIN);
        due("17 all are MIN", y.best(1, 2), 1);
        y.put(3, MAX);
        due("17 MIN and MAX", y.best(1, 3), 3);
        y.put(0, -1);
        due("17 MIN and -1", y.best(0, 2), 0);
    }

    private static void promise18Closest() {
        PackedArray x = new PackedArray();
        due("18 of none", x.closest(), 0);
        x.put(1000, 1);
        due("18 of one", x.closest(), 0);
        x.put(-1000, 1);
        due("18 of the outer two", x.closest(), 2000);
        x.put(10, 1);
        due("18 of three", x.closest(), 990);
        x.put(-980, 1);
        due("18 the first two", x.closest(), 20);
        x.put(995, 1);
        due("18 the last two", x.closest(), 5);
        x.put(12, 1);
        due("18 two in the middle", x.closest(), 2);
        x.put(11, 1);
        due("18 neighbours", x.closest(), 1);
        x.clear(11, 12);
        due("18 after clear", x.closest(), 5);
        x.clear(-999, 1000);
        due("18 of one again", x.closest(), 0);
        PackedArray y = new PackedArray();
        y.series(-1000, 40, 48, 0);
        due("18 of 48", y.closest(), 40);
        y.slide(880, 880, -1);
        due("18 the last two of 48", y.closest(), 39);
    }

    private static void promise19Gap() {
        PackedArray x = holding(-1000, -999, 3, 4, 5, 7, 999, 1000);
        int[] froms = {MIN, -1001, -1000, -999, -998, 2, 3, 4, 5, 6, 7, 8, 998, 999, 1000, 1001, MAX};
        int[] wants = {-998, -998, -998, -998, -998, 2, 6, 6, 6, 6, 8, 8, 998, -2000, -2000, -2000, -2000};
        for (int i = 0; i < froms.length; i++) {
            due("19 gap(" + froms[i] + ")", x.gap(froms[i]), wants[i]);
        }
        PackedArray y = new PackedArray();
        due("19 gap(MIN) of none", y.gap(MIN), -1000);
        due("19 gap(1000) of none", y.gap(1000), 1000);
        due("19 gap(1001) of none", y.gap(1001), -2000);
        due("19 gap(MAX) of none", y.gap(MAX), -2000);
        due("19 over 48 keys", full(0).gap(0), 48);
        due("19 over the last 48 keys", full(953).gap(953), -2000);
        due("19 over the first 48 keys", full(-1000).gap(MIN), -952);
    }

    private static void promise20Wrapping() {
        PackedArray x = new PackedArray();
        due("20 series over MAX", x.series(5, -1, 4, MAX - 1), 4);
        state("20 values wrap", x, "2=-2147483647 3=-2147483648 4=2147483647 5=2147483646");
        due("20 step 0 over MAX", x.series(9, 0, 48, MAX), 5);
        due("20 the last value", x.get(9), MIN + 46);
        due("20 from MIN", x.series(20, 1, 2, MIN), 7);
        due("20 get(21)", x.get(21), MIN + 1);
        due("20 up to MAX", x.series(30, 1, 2, MAX - 1), 9);
        due("20 get(31)", x.get(31), MAX);
    }

    private static void questionsChangeNothing() {
        PackedArray x = holding(-1000, -3, 0, 4, 1000);
        String before = Check.state(x);
        for (int n : new int[] {MIN, -1001, -1000, -3, 0, 1, 4, 1000, 1001, MAX}) {
            x.size();
            x.has(n);
            x.get(n);
            x.rank(n);
            x.select(n);
            x.next(n);
            x.previous(n);
            x.count(n, 4);
            x.sum(n, 4);
            x.best(n, 4);
            x.closest();
            x.gap(n);
            state("after questions with " + n, x, before);
        }
    }

    private static void objectsAreApart() {
        PackedArray x = holding(1, 2);
        PackedArray y = new PackedArray();
        due("a second object", y.size(), 0);
        y.put(1, 77);
        x.remove(2);
        state("of the first", x, "1=10");
        state("of the second", y, "1=77");
    }
}
