/** Long runs of mixed calls, the same ones every time, each answer compared with the model's. */
public final class ModelTest {
    private static final int RUNS = 2000;
    // Reading the whole state takes up to 97 calls, and 512 calls are promised.
    private static final int CALLS = 512 - 97;
    private static final int[] EDGES = {
        Integer.MIN_VALUE, -2001, -2000, -1001, -1000, -999, -101, -100, -1, 0, 1,
        47, 48, 49, 100, 101, 999, 1000, 1001, 2000, 2001, Integer.MAX_VALUE
    };

    private long seed;
    private int middle;
    private int spread;
    private PackedArray x;
    private Model m;

    public static void main(String[] args) {
        ModelTest test = new ModelTest();
        for (int run = 0; run < RUNS && Check.wrong() < 20; run++) {
            test.run(run);
        }
        Check.end();
    }

    private void run(int run) {
        seed = run;
        x = new PackedArray();
        m = new Model();
        // Narrow runs meet full tables and neighbours, wide ones meet the ends of the good keys.
        spread = new int[] {8, 30, 60, 200, 1010}[run % 5];
        middle = new int[] {0, 1000 - spread / 2, -1000 + spread / 2, 300}[run / 5 % 4];
        int calls = run % 3 == 0 ? CALLS : 1 + upTo(60);
        for (int i = 0; i < calls && Check.wrong() < 20; i++) {
            call("run " + run + ", call " + (i + 1) + ": ");
        }
        Check.due("run " + run + ": state at its end", Check.state(x), m.state());
    }

    /** A number of 0 .. bound - 1 from a fixed row, so that a run can be told again. */
    private int upTo(int bound) {
        seed = seed * 6364136223846793005L + 1442695040888963407L;
        return (int) ((seed >>> 33) % bound);
    }

    private int key() {
        if (upTo(20) == 0) {
            return EDGES[upTo(EDGES.length)];
        }
        return middle - spread + upTo(2 * spread + 1);
    }

    private int value() {
        int kind = upTo(4);
        if (kind == 0) {
            return EDGES[upTo(EDGES.length)];
        }
        return kind == 1 ? (int) (upTo(Integer.MAX_VALUE) * 2L) : upTo(7) - 3;
    }

    private int by() {
        return upTo(4) == 0 ? EDGES[upTo(EDGES.length)] : upTo(spread + 1) - spread / 2;
    }

    private int step() {
        return upTo(10) == 0 ? EDGES[upTo(EDGES.length)] : upTo(7) - 3;
    }

    private int many() {
        return upTo(10) == 0 ? EDGES[upTo(EDGES.length)] : 1 + upTo(upTo(3) == 0 ? 48 : 6);
    }

    private int highOver(int low) {
        return upTo(3) == 0 ? key() : low + upTo(spread);
    }

    private void due(String call, int got, int want) {
        Check.due(call, got, want);
    }

    private void call(String at) {
        int kind = upTo(26);
        if (kind < 13) {
            change(at, kind);
        } else {
            ask(at, kind - 13);
        }
    }

    private void change(String at, int kind) {
        int a = key();
        int b = highOver(a);
        switch (kind) {
            case 0, 1, 2, 3, 4 -> {
                int value = value();
                due(at + "put(" + a + ", " + value + ")", x.put(a, value), m.put(a, value));
            }
            case 5 -> {
                int step = step();
                int many = many();
                int value = value();
                due(at + "series(" + a + ", " + step + ", " + many + ", " + value + ")",
                    x.series(a, step, many, value), m.series(a, step, many, value));
            }
            case 6, 7 -> due(at + "remove(" + a + ")", x.remove(a), m.remove(a));
            case 8 -> {
                int high = upTo(4) == 0 ? b : a + upTo(4);
                due(at + "clear(" + a + ", " + high + ")", x.clear(a, high), m.clear(a, high));
            }
            case 9, 10, 11 -> {
                int by = by();
                due(at + "slide(" + a + ", " + b + ", " + by + ")", x.slide(a, b, by), m.slide(a, b, by));
            }
            default -> {
                int by = value();
                due(at + "raise(" + a + ", " + b + ", " + by + ")", x.raise(a, b, by), m.raise(a, b, by));
            }
        }
    }

    private void ask(String at, int kind) {
        int a = key();
        int b = highOver(a);
        switch (kind) {
            case 0 -> due(at + "size()", x.size(), m.size());
            case 1 -> due(at + "has(" + a + ")", x.has(a), m.has(a));
            case 2 -> due(at + "get(" + a + ")", x.get(a), m.get(a));
            case 3 -> due(at + "rank(" + a + ")", x.rank(a), m.rank(a));
            case 4 -> {
                int k = upTo(8) == 0 ? a : upTo(50) - 1;
                due(at + "select(" + k + ")", x.select(k), m.select(k));
            }
            case 5 -> due(at + "next(" + a + ")", x.next(a), m.next(a));
            case 6 -> due(at + "previous(" + a + ")", x.previous(a), m.previous(a));
            case 7 -> due(at + "count(" + a + ", " + b + ")", x.count(a, b), m.count(a, b));
            case 8 -> due(at + "sum(" + a + ", " + b + ")", x.sum(a, b), m.sum(a, b));
            case 9, 10 -> due(at + "best(" + a + ", " + b + ")", x.best(a, b), m.best(a, b));
            case 11 -> due(at + "closest()", x.closest(), m.closest());
            default -> due(at + "gap(" + a + ")", x.gap(a), m.gap(a));
        }
    }
}
