import java.util.ArrayList;
import java.util.Arrays;
import java.util.Collections;
import java.util.List;

/** The document's first sentence, and objects that are used side by side. */
public final class WalkSentenceTest {
    private static final int MIN = Tables.MIN;
    private static final int MAX = Tables.MAX;

    public static void main(String[] args) {
        walkOfTablesMadeByPut();
        walkOfTablesMadeBySeries();
        walkOfTablesMadeBySlide();
        walkOfWhatIsLeft();
        walkOfAFullTable();
        objectsChangedByTurns();
        newObjectBesideAFullOne();
        Check.end();
    }

    // "A sorted table of keys with values, kept for walking through it in order."
    private static void walkOfTablesMadeByPut() {
        walk("none", new PackedArray());
        walk("one", Tables.pairs(0, MIN), 0, MIN);
        walk("put up", Tables.pairs(-1000, 4, -1, 3, 0, 2, 1000, 1), -1000, 4, -1, 3, 0, 2, 1000, 1);
        walk("put down", Tables.pairs(1000, 1, 0, 2, -1, 3, -1000, 4), -1000, 4, -1, 3, 0, 2, 1000, 1);
        walk("put mixed", Tables.pairs(0, 2, 1000, 1, -1000, 4, -1, 3), -1000, 4, -1, 3, 0, 2, 1000, 1);
        walk("put twice", Tables.pairs(3, 1, 2, 1, 3, 5, 1, 1, 2, 6), 1, 1, 2, 6, 3, 5);
    }

    private static void walkOfTablesMadeBySeries() {
        PackedArray x = Tables.pairs(5, 50, -5, -50);
        x.series(6, -3, 5, 70);
        walk("series down among others", x, -6, 74, -5, -50, -3, 73, 0, 72, 3, 71, 5, 50, 6, 70);
        x.series(-7, 1, 2, 80);
        walk("series up over the least", x, -7, 80, -6, 81, -5, -50, -3, 73, 0, 72, 3, 71, 5, 50, 6, 70);
    }

    private static void walkOfTablesMadeBySlide() {
        PackedArray x = Tables.pairs(1, 10, 2, 20, 3, 30, 4, 40);
        x.slide(2, 3, 10);
        walk("the middle over the greatest", x, 1, 10, 4, 40, 12, 20, 13, 30);
        x.slide(4, 13, -13);
        walk("all but the least below it", x, -9, 40, -1, 20, 0, 30, 1, 10);
    }

    private static void walkOfWhatIsLeft() {
        PackedArray x = Tables.holding(-3, -2, -1, 0, 1, 2, 3);
        x.remove(-3);
        x.remove(0);
        x.remove(3);
        walk("after remove", x, -2, -20, -1, -10, 1, 10, 2, 20);
        x.clear(-1, 1);
        walk("after clear", x, -2, -20, 2, 20);
        x.raise(MIN, 0, 7);
        walk("after raise", x, -2, -13, 2, 20);
        x.put(0, 5);
        walk("after put between", x, -2, -13, 0, 5, 2, 20);
    }

    private static void walkOfAFullTable() {
        PackedArray x = new PackedArray();
        int[] want = new int[96];
        // 29 and 48 have no common divisor, so each key comes once, and not in order.
        for (int i = 0; i < 48; i++) {
            int place = i * 29 % 48;
            x.put(-1000 + 40 * place, i);
            want[2 * place] = -1000 + 40 * place;
            want[2 * place + 1] = i;
        }
        walk("48 put mixed", x, want);
    }

    /** Walks up and down, by key and by place, and meets just the given keys with their values. */
    private static void walk(String of, PackedArray x, int... keysAndValues) {
        List<Integer> want = new ArrayList<>();
        for (int i = 0; i < keysAndValues.length; i += 2) {
            want.add(keysAndValues[i]);
            Tables.due(of + ", get(" + keysAndValues[i] + ")", x.get(keysAndValues[i]), keysAndValues[i + 1]);
            Tables.due(of + ", rank(" + keysAndValues[i] + ")", x.rank(keysAndValues[i]), i / 2);
        }
        Check.due(of + ", walk up", walkUp(x), want);
        Check.due(of + ", walk by select", walkBySelect(x), want);
        List<Integer> back = new ArrayList<>(want);
        Collections.reverse(back);
        Check.due(of + ", walk down", walkDown(x), back);
    }

    // The walks stop behind the 49th key at the latest, so that a wrong table can't hold them.
    private static List<Integer> walkUp(PackedArray x) {
        List<Integer> met = new ArrayList<>();
        for (int key = x.next(MIN); key != -2000 && met.size() < 49; key = x.next(key)) {
            met.add(key);
        }
        return met;
    }

    private static List<Integer> walkDown(PackedArray x) {
        List<Integer> met = new ArrayList<>();
        for (int key = x.previous(MAX); key != -2000 && met.size() < 49; key = x.previous(key)) {
            met.add(key);
        }
        return met;
    }

    private static List<Integer> walkBySelect(PackedArray x) {
        List<Integer> met = new ArrayList<>();
        for (int key = x.select(0); key != -2000 && met.size() < 49; key = x.select(met.size())) {
            met.add(key);
        }
        return met;
    }

    // "An object is used .." and "No keys.": what is done to one object is nothing to another.
    private static void objectsChangedByTurns() {
        PackedArray one = new PackedArray();
        PackedArray other = new PackedArray();
        Tables.due("one.put(1, 10)", one.put(1, 10), 1);
        Tables.due("other.put(1, 20)", other.put(1, 20), 1);
        Tables.due("one.series(2, 1, 3, 11)", one.series(2, 1, 3, 11), 4);
        Tables.due("other.remove(2)", other.remove(2), -2);
        Tables.due("other.series(5, -2, 2, 30)", other.series(5, -2, 2, 30), 3);
        Tables.due("one.slide(1, 2, 100)", one.slide(1, 2, 100), 2);
        Tables.state("of one", one, "3=12 4=13 101=10 102=11");
        Tables.state("of the other", other, "1=20 3=31 5=30");
        Tables.due("other.raise(1, 3, 5)", other.raise(1, 3, 5), 2);
        Tables.due("one.clear(4, 101)", one.clear(4, 101), 2);
        Tables.due("other.remove(5)", other.remove(5), 0);
        Tables.state("of one at the end", one, "3=12 102=11");
        Tables.state("of the other at the end", other, "1=25 3=36");
    }

    private static void newObjectBesideAFullOne() {
        PackedArray full = Tables.row(0, 1, 48);
        String before = Tables.view(full);
        PackedArray fresh = new PackedArray();
        Tables.state("of a new object beside a full one", fresh, "");
        Tables.due("put into the new one", fresh.put(0, 99), 1);
        Tables.due("clear of the new one", fresh.clear(MIN, MAX), 1);
        Check.due("the full one", Tables.view(full), before);
        Tables.due("put into the full one", full.put(48, 1), -2);
        PackedArray[] many = new PackedArray[100];
        Arrays.setAll(many, i -> Tables.pairs(i, -i));
        for (int i = 0; i < many.length; i++) {
            Tables.state("of object " + i + " of 100", many[i], i + "=" + -i);
        }
    }
}
