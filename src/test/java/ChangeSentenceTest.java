import java.util.function.Supplier;

/** A method for each sentence of promises 2 to 7 and 20, at its boundaries and just beyond them. */
public final class ChangeSentenceTest {
    private static final int MIN = Tables.MIN;
    private static final int MAX = Tables.MAX;

    public static void main(String[] args) {
        putPutsAKeyInOrChangesItsValue();
        putMinus1IfKeyIsNotGood();
        putMinus2IfNotHeldAnd48KeysAre();
        putOtherwise1Or0();
        seriesPutsTheKeysInOneAfterTheOther();
        seriesLikePut();
        seriesLeavesOutKeysThatAreNotGood();
        seriesLeavesOutKeysWhen48AreHeld();
        seriesMinus1IfKeyIsNotGood();
        seriesMinus2IfStepIsOutside();
        seriesMinus3IfCountIsOutside();
        seriesOtherwiseHowManyAreHeldNow();
        removeTakesAKeyOut();
        removeMinus1IfKeyIsNotGood();
        removeMinus2IfItIsNotHeld();
        clearTakesAllKeysOfARangeOut();
        clearAnswersHowMany();
        slideAddsByToAllKeysWithTheirValues();
        slideMinus1IfOneWouldNotBeGood();
        slideByMayBeAnyInt();
        slideMinus2IfOneWouldBeTheSame();
        slideOntoKeysOfTheRangeItself();
        slideOtherwiseHowMany();
        raiseAddsByToTheValues();
        raiseWrapsLikeInts();
        raiseAnswersHowMany();
        promise20SeriesValuesWrapLikeInts();
        Check.end();
    }

    // "Puts a key in, or changes its value."
    private static void putPutsAKeyInOrChangesItsValue() {
        Tables.changed("put below all", Tables.holding(-999, 3), x -> x.put(-1000, 7), 1, "-1000=7 -999=-9990 3=30");
        Tables.changed("put above all", Tables.holding(3, 999), x -> x.put(1000, 7), 1, "3=30 999=9990 1000=7");
        Tables.changed("put between", Tables.holding(3, 5), x -> x.put(4, 7), 1, "3=30 4=7 5=50");
        Tables.changed("put on the least", Tables.holding(-1000, 4), x -> x.put(-1000, 7), 0, "-1000=7 4=40");
        Tables.changed("put on the greatest", Tables.holding(4, 1000), x -> x.put(1000, 7), 0, "4=40 1000=7");
        Tables.changed("put on one between", Tables.holding(3, 4, 5), x -> x.put(4, 7), 0, "3=30 4=7 5=50");
    }

    // "-1 if key is not good"
    private static void putMinus1IfKeyIsNotGood() {
        Tables.kinds().forEach((kind, table) -> {
            for (int key : Tables.NOT_GOOD) {
                Tables.unchanged(kind + ", put(" + key + ", 7)", table, x -> x.put(key, 7), -1);
            }
        });
        for (int key : new int[] {-1000, -999, 999, 1000}) {
            Tables.due("put(" + key + ", 7)", new PackedArray().put(key, 7), 1);
        }
    }

    // "-2 if it is not held and 48 keys are"
    private static void putMinus2IfNotHeldAnd48KeysAre() {
        for (int key : new int[] {-1000, -941, -939, 0, 939, 941, 1000}) {
            PackedArray almost = Tables.row(-940, 40, 47);
            Tables.due("put(" + key + ", 7) on 47", almost.put(key, 7), 1);
            Tables.due("size() after it", almost.size(), 48);
            Supplier<PackedArray> full = () -> Tables.row(-940, 40, 48);
            Tables.unchanged("put(" + key + ", 7) on 48", full, x -> x.put(key, 7), -2);
        }
        for (int i = 0; i < 48; i++) {
            PackedArray full = Tables.row(-940, 40, 48);
            int key = -940 + 40 * i;
            Tables.due("put(" + key + ", 777), held, on 48", full.put(key, 777), 0);
            Tables.due("get(" + key + ") after it", full.get(key), 777);
            Tables.due("size() after it", full.size(), 48);
            // The values were 0 .. 47, whose sum is 1128.
            Tables.due("sum of all after it", full.sum(MIN, MAX), 1128 - i + 777);
        }
    }

    // "otherwise 1 if it was put in, 0 if its value was changed"
    private static void putOtherwise1Or0() {
        PackedArray x = new PackedArray();
        Tables.changed("put(0, 0), new", x, y -> y.put(0, 0), 1, "0=0");
        Tables.changed("put(0, 0), the same value", x, y -> y.put(0, 0), 0, "0=0");
        Tables.changed("put(0, MIN)", x, y -> y.put(0, MIN), 0, "0=-2147483648");
        Tables.changed("put(0, MAX)", x, y -> y.put(0, MAX), 0, "0=2147483647");
        Tables.changed("remove(0)", x, y -> y.remove(0), 0, "");
        Tables.changed("put(0, MAX) anew", x, y -> y.put(0, MAX), 1, "0=2147483647");
        Tables.changed("slide it away", x, y -> y.slide(0, 0, 1), 1, "1=2147483647");
        Tables.changed("put(0, 5) where it was", x, y -> y.put(0, 5), 1, "0=5 1=2147483647");
        Tables.changed("put(1, 6) where it is", x, y -> y.put(1, 6), 0, "0=5 1=6");
    }

    // "Puts the keys key, key + step, key + 2 * step, .., count of them, in, one after the other like put,
    // with the values value, value + 1, .."
    private static void seriesPutsTheKeysInOneAfterTheOther() {
        for (int step = -100; step <= 100; step++) {
            for (int many : new int[] {1, 2, 3, 47, 48}) {
                seriesFromAnEnd(step, many);
            }
        }
    }

    private static void seriesFromAnEnd(int step, int many) {
        int key = step == 0 ? 0 : step > 0 ? -1000 : 1000;
        PackedArray x = new PackedArray();
        x.series(key, step, many, 70);
        String call = " after series(" + key + ", " + step + ", " + many + ", 70)";
        int held = 0;
        for (int i = 0; i < many; i++) {
            int each = key + i * step;
            if (each >= -1000 && each <= 1000) {
                held++;
                Tables.due("get(" + each + ")" + call, x.get(each), 70 + (step == 0 ? many - 1 : i));
            }
        }
        Tables.due("size()" + call, x.size(), step == 0 ? 1 : held);
    }

    // "one after the other like put": a held key's value is changed, and the last of several stays.
    private static void seriesLikePut() {
        Tables.changed("series over held keys", Tables.holding(1, 3, 5), x -> x.series(1, 1, 4, 70), 5,
            "1=70 2=71 3=72 4=73 5=50");
        Tables.changed("series down over held keys", Tables.holding(1, 3, 5), x -> x.series(5, -2, 3, 70), 3,
            "1=72 3=71 5=70");
        Tables.changed("series with step 0", Tables.holding(1, 3), x -> x.series(2, 0, 48, 70), 3, "1=10 2=117 3=30");
        Tables.changed("series with step 0 on a held key", Tables.holding(1, 3), x -> x.series(3, 0, 2, 70), 2,
            "1=10 3=71");
        Tables.changed("series with step 0, once", Tables.holding(1), x -> x.series(-1000, 0, 1, 70), 2, "-1000=70 1=10");
    }

    // "those for which put would be refused are left out": the keys that are not good.
    private static void seriesLeavesOutKeysThatAreNotGood() {
        Tables.changed("up to 1000", Tables.holding(1), x -> x.series(998, 1, 3, 70), 4, "1=10 998=70 999=71 1000=72");
        Tables.changed("up to 1001", Tables.holding(1), x -> x.series(998, 1, 4, 70), 4, "1=10 998=70 999=71 1000=72");
        Tables.changed("up to 999", Tables.holding(1), x -> x.series(998, 1, 2, 70), 3, "1=10 998=70 999=71");
        Tables.changed("down to -1000", Tables.holding(1), x -> x.series(-998, -1, 3, 70), 4,
            "-1000=72 -999=71 -998=70 1=10");
        Tables.changed("down to -1001", Tables.holding(1), x -> x.series(-998, -1, 4, 70), 4,
            "-1000=72 -999=71 -998=70 1=10");
        Tables.changed("down to -999", Tables.holding(1), x -> x.series(-998, -1, 2, 70), 3, "-999=71 -998=70 1=10");
        Tables.changed("47 above 1000", new PackedArray(), x -> x.series(1000, 1, 48, 70), 1, "1000=70");
        Tables.changed("47 below -1000", new PackedArray(), x -> x.series(-1000, -1, 48, 70), 1, "-1000=70");
        Tables.changed("far above", new PackedArray(), x -> x.series(950, 100, 48, 70), 1, "950=70");
        Tables.changed("far below", new PackedArray(), x -> x.series(-950, -100, 48, 70), 1, "-950=70");
        Tables.changed("step 100 to 1000", new PackedArray(), x -> x.series(800, 100, 48, 70), 3, "800=70 900=71 1000=72");
        Tables.changed("step 100 past 1000", new PackedArray(), x -> x.series(801, 100, 48, 70), 2, "801=70 901=71");
        Tables.changed("step -100 to -1000", new PackedArray(), x -> x.series(-800, -100, 48, 70), 3,
            "-1000=72 -900=71 -800=70");
        Tables.changed("step -100 past -1000", new PackedArray(), x -> x.series(-801, -100, 48, 70), 2, "-901=71 -801=70");
    }

    // The same sentence: the keys that are not held when 48 are. key + i * step goes with value + i,
    // also behind a key that was left out.
    private static void seriesLeavesOutKeysWhen48AreHeld() {
        PackedArray x = Tables.row(0, 2, 48);
        Tables.due("series over held and other keys", x.series(-2, 1, 6, 70), 48);
        int[] keys = {-2, -1, 0, 1, 2, 3, 4};
        int[] held = {0, 0, 1, 0, 1, 0, 1};
        int[] values = {0, 0, 72, 0, 74, 0, 2};
        for (int i = 0; i < keys.length; i++) {
            Tables.due("has(" + keys[i] + ") after it", x.has(keys[i]), held[i]);
            Tables.due("get(" + keys[i] + ") after it", x.get(keys[i]), values[i]);
        }
        PackedArray y = Tables.row(0, 2, 47);
        Tables.due("series with room for one", y.series(5, -1, 5, 70), 48);
        // Of 5, 4, 3, 2, 1: 5 takes the room, 4 and 2 are held, 3 and 1 are left out.
        int[] after = {0, 0, 73, 0, 71, 70, 3};
        for (int key = 0; key < after.length; key++) {
            Tables.due("get(" + key + ") after series with room for one", y.get(key), after[key]);
        }
        Supplier<PackedArray> full = () -> Tables.row(0, 2, 48);
        Tables.unchanged("series of 48 other keys on 48", full, z -> z.series(-1, -2, 48, 70), 48);
        Tables.unchanged("series of one other key on 48", full, z -> z.series(1, 0, 1, 70), 48);
        PackedArray whole = Tables.row(0, 1, 48);
        Tables.due("series over all 48", whole.series(47, -1, 48, 100), 48);
        Tables.due("get(47)", whole.get(47), 100);
        Tables.due("get(0)", whole.get(0), 147);
    }

    // "-1 if key is not good"
    private static void seriesMinus1IfKeyIsNotGood() {
        Tables.kinds().forEach((kind, table) -> {
            for (int key : Tables.NOT_GOOD) {
                // The steps lead to good keys, where there are any near.
                int step = key > 0 ? -1 : 1;
                String call = kind + ", series(" + key + ", " + step + ", 48, 7)";
                Tables.unchanged(call, table, x -> x.series(key, step, 48, 7), -1);
            }
        });
        for (int key : new int[] {-1000, -999, 999, 1000}) {
            Tables.due("series(" + key + ", 0, 1, 7)", new PackedArray().series(key, 0, 1, 7), 1);
        }
    }

    // "-2 if step is not in -100 .. 100"
    private static void seriesMinus2IfStepIsOutside() {
        Tables.kinds().forEach((kind, table) -> {
            for (int step : new int[] {MIN, MIN + 1, -1000, -102, -101, 101, 102, 1000, MAX - 1, MAX}) {
                for (int many : new int[] {1, 2, 48}) {
                    String call = kind + ", series(0, " + step + ", " + many + ", 7)";
                    Tables.unchanged(call, table, x -> x.series(0, step, many, 7), -2);
                }
            }
        });
        Tables.changed("step 100", new PackedArray(), x -> x.series(0, 100, 2, 7), 2, "0=7 100=8");
        Tables.changed("step 99", new PackedArray(), x -> x.series(0, 99, 2, 7), 2, "0=7 99=8");
        Tables.changed("step -100", new PackedArray(), x -> x.series(0, -100, 2, 7), 2, "-100=8 0=7");
        Tables.changed("step -99", new PackedArray(), x -> x.series(0, -99, 2, 7), 2, "-99=8 0=7");
        Tables.changed("step 0", new PackedArray(), x -> x.series(0, 0, 2, 7), 1, "0=8");
    }

    // "-3 if count is not in 1 .. 48"
    private static void seriesMinus3IfCountIsOutside() {
        Tables.kinds().forEach((kind, table) -> {
            for (int many : new int[] {MIN, MIN + 1, -48, -1, 0, 49, 50, MAX - 1, MAX}) {
                for (int step : new int[] {-100, 0, 100}) {
                    String call = kind + ", series(0, " + step + ", " + many + ", 7)";
                    Tables.unchanged(call, table, x -> x.series(0, step, many, 7), -3);
                }
            }
        });
        for (int many = 1; many <= 48; many++) {
            PackedArray x = new PackedArray();
            Tables.due("series(0, 1, " + many + ", 7)", x.series(0, 1, many, 7), many);
            Tables.due("the last of " + many, x.get(many - 1), 7 + many - 1);
            Tables.due("none behind the last of " + many, x.has(many), 0);
        }
    }

    // "otherwise answers how many keys are held now"
    private static void seriesOtherwiseHowManyAreHeldNow() {
        Tables.due("on none, one new", new PackedArray().series(0, 1, 1, 7), 1);
        Tables.due("on two, none new", Tables.holding(1, 2).series(1, 1, 2, 7), 2);
        Tables.due("on two, one new", Tables.holding(1, 2).series(2, 1, 2, 7), 3);
        Tables.due("on two, one good and new", Tables.holding(1, 2).series(1000, 1, 48, 7), 3);
        Tables.due("on 46, one new", Tables.row(0, 1, 46).series(100, 1, 1, 7), 47);
        Tables.due("on 46, two new", Tables.row(0, 1, 46).series(100, 1, 2, 7), 48);
        Tables.due("on 46, three new", Tables.row(0, 1, 46).series(100, 1, 3, 7), 48);
        Tables.due("on 48, none new", Tables.row(0, 1, 48).series(0, 1, 48, 7), 48);
        Tables.due("on 48, all left out", Tables.row(0, 1, 48).series(100, 1, 48, 7), 48);
    }

    // "Takes a key out." .. "otherwise 0"
    private static void removeTakesAKeyOut() {
        Tables.changed("remove the only one", Tables.holding(0), x -> x.remove(0), 0, "");
        Tables.changed("remove -1000", Tables.holding(-1000, 0, 1000), x -> x.remove(-1000), 0, "0=0 1000=10000");
        Tables.changed("remove 1000", Tables.holding(-1000, 0, 1000), x -> x.remove(1000), 0, "-1000=-10000 0=0");
        Tables.changed("remove 0", Tables.holding(-1000, 0, 1000), x -> x.remove(0), 0, "-1000=-10000 1000=10000");
        for (int i = 0; i < 48; i++) {
            PackedArray x = Tables.row(-1000, 1, 48);
            int key = -1000 + i;
            Tables.due("remove(" + key + ") from 48", x.remove(key), 0);
            Tables.due("has(" + key + ") after it", x.has(key), 0);
            Tables.due("size() after it", x.size(), 47);
            Tables.due("sum of all after it", x.sum(MIN, MAX), 1128 - i);
        }
    }

    // "-1 if key is not good"
    private static void removeMinus1IfKeyIsNotGood() {
        Tables.kinds().forEach((kind, table) -> {
            for (int key : Tables.NOT_GOOD) {
                Tables.unchanged(kind + ", remove(" + key + ")", table, x -> x.remove(key), -1);
            }
        });
        Tables.due("remove(-1000), held", Tables.holding(-1000).remove(-1000), 0);
        Tables.due("remove(1000), held", Tables.holding(1000).remove(1000), 0);
        Tables.due("remove(-1000), not held", Tables.holding(0).remove(-1000), -2);
        Tables.due("remove(1000), not held", Tables.holding(0).remove(1000), -2);
    }

    // "-2 if it is not held"
    private static void removeMinus2IfItIsNotHeld() {
        Supplier<PackedArray> none = PackedArray::new;
        Supplier<PackedArray> three = () -> Tables.holding(-999, 0, 999);
        Supplier<PackedArray> full = () -> Tables.row(-940, 40, 48);
        for (int key : new int[] {-1000, -998, -1, 1, 998, 1000}) {
            Tables.unchanged("remove(" + key + ") from none", none, x -> x.remove(key), -2);
            Tables.unchanged("remove(" + key + ") from three", three, x -> x.remove(key), -2);
            Tables.unchanged("remove(" + key + ") from 48", full, x -> x.remove(key), -2);
        }
        PackedArray x = Tables.holding(-999, 0, 999);
        Tables.changed("remove(999)", x, y -> y.remove(999), 0, "-999=-9990 0=0");
        Tables.changed("remove(999) again", x, y -> y.remove(999), -2, "-999=-9990 0=0");
        PackedArray z = Tables.row(0, 1, 48);
        Tables.due("remove the last of 48", z.remove(47), 0);
        Tables.due("remove it again", z.remove(47), -2);
        Tables.due("size() after that", z.size(), 47);
    }

    // "Takes all keys of a range out"
    private static void clearTakesAllKeysOfARangeOut() {
        int[] keys = {-1000, -1, 0, 1, 1000};
        Tables.changed("clear(-1, 1)", Tables.holding(keys), x -> x.clear(-1, 1), 3, "-1000=-10000 1000=10000");
        Tables.changed("clear(0, 1)", Tables.holding(keys), x -> x.clear(0, 1), 2, "-1000=-10000 -1=-10 1000=10000");
        Tables.changed("clear(-1, 0)", Tables.holding(keys), x -> x.clear(-1, 0), 2, "-1000=-10000 1=10 1000=10000");
        Tables.changed("clear(-2, 2)", Tables.holding(keys), x -> x.clear(-2, 2), 3, "-1000=-10000 1000=10000");
        Tables.changed("clear(-1000, -1000)", Tables.holding(keys), x -> x.clear(-1000, -1000), 1,
            "-1=-10 0=0 1=10 1000=10000");
        Tables.changed("clear(1000, 1000)", Tables.holding(keys), x -> x.clear(1000, 1000), 1,
            "-1000=-10000 -1=-10 0=0 1=10");
        Tables.changed("clear(MIN, -1000)", Tables.holding(keys), x -> x.clear(MIN, -1000), 1,
            "-1=-10 0=0 1=10 1000=10000");
        Tables.changed("clear(1000, MAX)", Tables.holding(keys), x -> x.clear(1000, MAX), 1,
            "-1000=-10000 -1=-10 0=0 1=10");
        Tables.changed("clear(MIN, 999)", Tables.holding(keys), x -> x.clear(MIN, 999), 4, "1000=10000");
        Tables.changed("clear(-999, MAX)", Tables.holding(keys), x -> x.clear(-999, MAX), 4, "-1000=-10000");
        Tables.changed("clear(-1000, 1000)", Tables.holding(keys), x -> x.clear(-1000, 1000), 5, "");
        Tables.changed("clear(MIN, MAX)", Tables.holding(keys), x -> x.clear(MIN, MAX), 5, "");
    }

    // "answers how many those were"
    private static void clearAnswersHowMany() {
        Tables.kinds().forEach((kind, table) -> {
            Tables.unchanged(kind + ", clear(MAX, MIN)", table, x -> x.clear(MAX, MIN), 0);
            Tables.unchanged(kind + ", clear(1, 0)", table, x -> x.clear(1, 0), 0);
            Tables.unchanged(kind + ", clear(1, 2)", table, x -> x.clear(1, 2), 0);
            Tables.unchanged(kind + ", clear(MIN, -1001)", table, x -> x.clear(MIN, -1001), 0);
            Tables.unchanged(kind + ", clear(1001, MAX)", table, x -> x.clear(1001, MAX), 0);
        });
        for (int many = 0; many <= 48; many++) {
            PackedArray x = Tables.row(0, 1, 48);
            int last = many - 1;
            Tables.due("clear(0, " + last + ") of 48", x.clear(0, last), many);
            Tables.due("size() after it", x.size(), 48 - many);
            Tables.due("clear(0, " + last + ") again", x.clear(0, last), 0);
            Tables.due("clear of the rest", x.clear(MIN, MAX), 48 - many);
            Tables.due("size() after that", x.size(), 0);
        }
    }

    // "Adds by to all keys of a range, with their values."
    private static void slideAddsByToAllKeysWithTheirValues() {
        Tables.changed("up by 1", Tables.holding(1, 3, 5), x -> x.slide(1, 3, 1), 2, "2=10 4=30 5=50");
        Tables.changed("down by 1", Tables.holding(1, 3, 5), x -> x.slide(3, 5, -1), 2, "1=10 2=30 4=50");
        Tables.changed("up over all others", Tables.holding(1, 3, 5), x -> x.slide(1, 1, 5), 1, "3=30 5=50 6=10");
        Tables.changed("down over all others", Tables.holding(1, 3, 5), x -> x.slide(5, 5, -5), 1, "0=50 1=10 3=30");
        Tables.changed("up between the others", Tables.holding(1, 3, 6, 8), x -> x.slide(1, 3, 4), 2, "5=10 6=60 7=30 8=80");
        Tables.changed("down between the others", Tables.holding(1, 3, 6, 8), x -> x.slide(6, 8, -4), 2,
            "1=10 2=60 3=30 4=80");
        Tables.changed("by 0", Tables.holding(1, 3, 5), x -> x.slide(1, 3, 0), 2, "1=10 3=30 5=50");
        Tables.changed("from -1000 to 1000", Tables.pairs(-1000, MIN, 0, 1), x -> x.slide(-1000, -1, 2000), 1,
            "0=1 1000=-2147483648");
        Tables.changed("from 1000 to -1000", Tables.pairs(1000, MAX, 0, 1), x -> x.slide(1, 1000, -2000), 1,
            "-1000=2147483647 0=1");
        PackedArray full = Tables.row(-1000, 1, 48);
        Tables.due("slide of 48 to the upper end", full.slide(MIN, MAX, 1953), 48);
        Tables.due("its least key", full.select(0), 953);
        Tables.due("its greatest key", full.select(47), 1000);
        Tables.due("its least key's value", full.get(953), 0);
        Tables.due("its greatest key's value", full.get(1000), 47);
    }

    // "-1 if one of the keys would not be good"
    private static void slideMinus1IfOneWouldNotBeGood() {
        Supplier<PackedArray> high = () -> Tables.holding(0, 998, 999);
        Tables.changed("the last to 1000", high.get(), x -> x.slide(998, 999, 1), 2, "0=0 999=9980 1000=9990");
        Tables.unchanged("the last to 1001", high, x -> x.slide(998, 999, 2), -1);
        Tables.unchanged("both past 1000", high, x -> x.slide(998, 999, 3), -1);
        Tables.unchanged("all, the last to 1001", high, x -> x.slide(MIN, MAX, 2), -1);
        Tables.unchanged("all, below -1000", high, x -> x.slide(MIN, MAX, -1001), -1);
        Tables.changed("all, down to -1000", high.get(), x -> x.slide(MIN, MAX, -1000), 3, "-1000=0 -2=9980 -1=9990");
        Supplier<PackedArray> low = () -> Tables.holding(-999, -998, 0);
        Tables.changed("the first to -1000", low.get(), x -> x.slide(-999, -998, -1), 2, "-1000=-9990 -999=-9980 0=0");
        Tables.unchanged("the first to -1001", low, x -> x.slide(-999, -998, -2), -1);
        Tables.unchanged("both below -1000", low, x -> x.slide(-999, -998, -3), -1);
        Tables.unchanged("all, the first to -1001", low, x -> x.slide(MIN, MAX, -2), -1);
        Tables.unchanged("all, past 1000", low, x -> x.slide(MIN, MAX, 1001), -1);
        Tables.changed("all, up to 1000", low.get(), x -> x.slide(MIN, MAX, 1000), 3, "1=-9990 2=-9980 1000=0");
        Supplier<PackedArray> outer = () -> Tables.holding(-1000, 1000);
        Tables.unchanged("1000 by 1", outer, x -> x.slide(1000, 1000, 1), -1);
        Tables.unchanged("-1000 by -1", outer, x -> x.slide(-1000, -1000, -1), -1);
        Tables.unchanged("-1000 by 2001", outer, x -> x.slide(-1000, -1000, 2001), -1);
        Tables.unchanged("1000 by -2001", outer, x -> x.slide(1000, 1000, -2001), -1);
        Tables.changed("a key outside the range may stay at 1000", Tables.holding(0, 1000), x -> x.slide(0, 999, 1), 1,
            "1=0 1000=10000");
    }

    // "(by may be any int)"
    private static void slideByMayBeAnyInt() {
        int[] far = {MIN, MIN + 1, MIN + 999, MIN + 1000, MIN + 1001, MIN + 2000, -2001, 2001, MAX - 2000, MAX - 1000,
            MAX - 999, MAX - 1, MAX};
        Tables.kinds().forEach((kind, table) -> {
            int held = table.get().size();
            for (int by : far) {
                Tables.unchanged(kind + ", slide of all by " + by, table, x -> x.slide(MIN, MAX, by), held == 0 ? 0 : -1);
                Tables.unchanged(kind + ", slide of none by " + by, table, x -> x.slide(1, 2, by), 0);
                Tables.unchanged(kind + ", low above high, by " + by, table, x -> x.slide(MAX, MIN, by), 0);
            }
        });
        for (int key : new int[] {-1000, -999, -1, 0, 1, 999, 1000}) {
            for (int by : far) {
                Supplier<PackedArray> one = () -> Tables.holding(key);
                Tables.unchanged("slide of " + key + " by " + by, one, x -> x.slide(key, key, by), -1);
            }
        }
    }

    // "-2 if one of them would be the same as a key that is held and not in the range"
    private static void slideMinus2IfOneWouldBeTheSame() {
        Supplier<PackedArray> four = () -> Tables.holding(-10, 0, 3, 10);
        Tables.unchanged("the upper one meets the next", four, x -> x.slide(0, 3, 7), -2);
        Tables.changed("just short of it", four.get(), x -> x.slide(0, 3, 6), 2, "-10=-100 6=0 9=30 10=100");
        Tables.changed("just past it", four.get(), x -> x.slide(0, 3, 8), 2, "-10=-100 8=0 10=100 11=30");
        Tables.unchanged("the lower one meets the next", four, x -> x.slide(0, 3, 10), -2);
        Tables.changed("both just past it", four.get(), x -> x.slide(0, 3, 11), 2, "-10=-100 10=100 11=0 14=30");
        Tables.unchanged("the lower one meets the one before", four, x -> x.slide(0, 3, -10), -2);
        Tables.changed("just short of that", four.get(), x -> x.slide(0, 3, -9), 2, "-10=-100 -9=0 -6=30 10=100");
        Tables.changed("just past that", four.get(), x -> x.slide(0, 3, -11), 2, "-11=0 -10=-100 -8=30 10=100");
        Tables.unchanged("the upper one meets the one before", four, x -> x.slide(0, 3, -13), -2);
        Tables.changed("both just past that", four.get(), x -> x.slide(0, 3, -14), 2, "-14=0 -11=30 -10=-100 10=100");
        Tables.unchanged("the first onto the last", four, x -> x.slide(-10, -10, 20), -2);
        Tables.unchanged("the last onto the first", four, x -> x.slide(10, 10, -20), -2);
        Supplier<PackedArray> outer = () -> Tables.holding(-1000, 1000);
        Tables.unchanged("-1000 onto 1000", outer, x -> x.slide(-1000, -1000, 2000), -2);
        Tables.unchanged("1000 onto -1000", outer, x -> x.slide(1000, 1000, -2000), -2);
        Supplier<PackedArray> full = () -> Tables.row(0, 1, 48);
        Tables.unchanged("47 of 48 onto the last", full, x -> x.slide(0, 46, 1), -2);
        Tables.unchanged("47 of 48 onto the first", full, x -> x.slide(1, 47, -1), -2);
    }

    // The same sentence's end: "and not in the range".
    private static void slideOntoKeysOfTheRangeItself() {
        Tables.changed("up onto its own", Tables.holding(1, 2, 3), x -> x.slide(1, 3, 1), 3, "2=10 3=20 4=30");
        Tables.changed("down onto its own", Tables.holding(1, 2, 3), x -> x.slide(1, 3, -1), 3, "0=10 1=20 2=30");
        Tables.changed("the first onto the last", Tables.holding(1, 2, 3), x -> x.slide(1, 3, 2), 3, "3=10 4=20 5=30");
        Tables.changed("the last onto the first", Tables.holding(1, 2, 3), x -> x.slide(1, 3, -2), 3, "-1=10 0=20 1=30");
        Tables.changed("beside others", Tables.holding(0, 1, 2, 4), x -> x.slide(1, 2, 1), 2, "0=0 2=10 3=20 4=40");
        PackedArray full = Tables.row(0, 1, 48);
        Tables.due("all 48 up by 1", full.slide(0, 47, 1), 48);
        Tables.due("get(0) after it", full.get(0), 0);
        Tables.due("has(0) after it", full.has(0), 0);
        Tables.due("get(48) after it", full.get(48), 47);
        Tables.due("all 48 down by 1", full.slide(1, 48, -1), 48);
        Tables.due("get(47) after that", full.get(47), 47);
        Tables.due("has(48) after that", full.has(48), 0);
    }

    // "otherwise answers how many keys the range had"
    private static void slideOtherwiseHowMany() {
        for (int many = 0; many <= 48; many++) {
            int last = many - 1;
            Tables.due("slide(0, " + last + ", 0)", Tables.row(0, 1, 48).slide(0, last, 0), many);
            Tables.due("slide(0, " + last + ", 100)", Tables.row(0, 1, 48).slide(0, last, 100), many);
            Tables.due("slide(0, " + last + ", -100)", Tables.row(0, 1, 48).slide(0, last, -100), many);
        }
        Tables.kinds().forEach((kind, table) -> {
            Tables.unchanged(kind + ", slide of none by 1", table, x -> x.slide(1, 2, 1), 0);
            Tables.unchanged(kind + ", slide(1, 0, -1)", table, x -> x.slide(1, 0, -1), 0);
        });
        // The range is that of before the slide, also where the keys leave it or stay in it.
        Tables.changed("keys that stay in the range", Tables.holding(1, 2), x -> x.slide(0, 9, 1), 2, "2=10 3=20");
        Tables.changed("keys that leave the range", Tables.holding(1, 2), x -> x.slide(1, 2, 9), 2, "10=10 11=20");
    }

    // "Adds by to the values of all keys of a range"
    private static void raiseAddsByToTheValues() {
        Tables.changed("the middle", Tables.holding(-1000, -1, 0, 1, 1000), x -> x.raise(-1, 1, 5), 3,
            "-1000=-10000 -1=-5 0=5 1=15 1000=10000");
        Tables.changed("without both ends", Tables.holding(-1000, -1, 0, 1, 1000), x -> x.raise(-999, 999, -5), 3,
            "-1000=-10000 -1=-15 0=-5 1=5 1000=10000");
        Tables.changed("both ends too", Tables.holding(-1000, 0, 1000), x -> x.raise(-1000, 1000, 1), 3,
            "-1000=-9999 0=1 1000=10001");
        Tables.changed("any ints", Tables.holding(-1000, 0, 1000), x -> x.raise(MIN, MAX, 1), 3,
            "-1000=-9999 0=1 1000=10001");
        Tables.changed("the first alone", Tables.holding(-1000, 0, 1000), x -> x.raise(MIN, -1000, 1), 1,
            "-1000=-9999 0=0 1000=10000");
        Tables.changed("the last alone", Tables.holding(-1000, 0, 1000), x -> x.raise(1000, MAX, 1), 1,
            "-1000=-10000 0=0 1000=10001");
        Tables.changed("by 0", Tables.holding(-1000, 0, 1000), x -> x.raise(MIN, MAX, 0), 3,
            "-1000=-10000 0=0 1000=10000");
    }

    // "(wrapping like ints)"
    private static void raiseWrapsLikeInts() {
        int[][] rows = {
            {MAX - 1, 1, MAX}, {MAX, 0, MAX}, {MAX, 1, MIN}, {MAX, 2, MIN + 1}, {1, MAX, MIN}, {0, MAX, MAX},
            {MAX, MAX, -2}, {MIN + 1, -1, MIN}, {MIN, 0, MIN}, {MIN, -1, MAX}, {MIN, -2, MAX - 1}, {-1, MIN, MAX},
            {0, MIN, MIN}, {MIN, MIN, 0}, {MIN, MAX, -1}, {MAX, MIN, -1}
        };
        for (int[] row : rows) {
            PackedArray x = Tables.pairs(1, row[0], 2, 7);
            Tables.changed("raise of " + row[0] + " by " + row[1], x, y -> y.raise(1, 1, row[1]), 1, "1=" + row[2] + " 2=7");
        }
    }

    // "answers how many those were"
    private static void raiseAnswersHowMany() {
        Tables.kinds().forEach((kind, table) -> {
            Tables.unchanged(kind + ", raise(MAX, MIN, 5)", table, x -> x.raise(MAX, MIN, 5), 0);
            Tables.unchanged(kind + ", raise(1, 0, 5)", table, x -> x.raise(1, 0, 5), 0);
            Tables.unchanged(kind + ", raise(1, 2, 5)", table, x -> x.raise(1, 2, 5), 0);
            Tables.unchanged(kind + ", raise(MIN, -1001, 5)", table, x -> x.raise(MIN, -1001, 5), 0);
            Tables.unchanged(kind + ", raise(1001, MAX, 5)", table, x -> x.raise(1001, MAX, 5), 0);
        });
        for (int many = 0; many <= 48; many++) {
            PackedArray x = Tables.row(0, 1, 48);
            int last = many - 1;
            Tables.due("raise(0, " + last + ", 3)", x.raise(0, last, 3), many);
            Tables.due("sum of all after it", x.sum(MIN, MAX), 1128 + 3 * many);
        }
    }

    // Promise 20: "series: the values value, value + 1, .. wrap like ints."
    private static void promise20SeriesValuesWrapLikeInts() {
        Tables.changed("up to MAX", new PackedArray(), x -> x.series(1, 1, 2, MAX - 1), 2, "1=2147483646 2=2147483647");
        Tables.changed("from MAX on", new PackedArray(), x -> x.series(1, 1, 2, MAX), 2, "1=2147483647 2=-2147483648");
        Tables.changed("over MAX", new PackedArray(), x -> x.series(1, 1, 3, MAX - 1), 3,
            "1=2147483646 2=2147483647 3=-2147483648");
        Tables.changed("past MIN", new PackedArray(), x -> x.series(1, 1, 3, MAX), 3,
            "1=2147483647 2=-2147483648 3=-2147483647");
        Tables.changed("from MIN on", new PackedArray(), x -> x.series(1, 1, 2, MIN), 2, "1=-2147483648 2=-2147483647");
        Tables.changed("down the keys", new PackedArray(), x -> x.series(1, -1, 2, MAX), 2, "0=-2147483648 1=2147483647");
        Tables.changed("on held keys", Tables.holding(1, 2), x -> x.series(1, 1, 2, MAX), 2, "1=2147483647 2=-2147483648");
        Tables.changed("over -1 to 1", new PackedArray(), x -> x.series(1, 1, 3, -1), 3, "1=-1 2=0 3=1");
        Tables.changed("step 0", new PackedArray(), x -> x.series(1, 0, 48, MAX), 1, "1=" + (MIN + 46));
        PackedArray all = new PackedArray();
        Tables.due("48 from MAX - 46", all.series(0, 1, 48, MAX - 46), 48);
        Tables.due("the last but one", all.get(46), MAX);
        Tables.due("the last", all.get(47), MIN);
        PackedArray full = Tables.row(0, 2, 48);
        Tables.due("one left out before the wrap", full.series(1, 1, 2, MAX), 48);
        Tables.due("the one behind it", full.get(2), MIN);
    }
}
