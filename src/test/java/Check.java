import java.util.Objects;

/** Compares answers with those that are due, and prints each one that differs. */
final class Check {
    private static int wrong = 0;

    private Check() {
    }

    static void due(String call, Object got, Object want) {
        if (!Objects.equals(got, want)) {
            wrong++;
            System.out.println(call + " answered " + got + ", due is " + want);
        }
    }

    static int wrong() {
        return wrong;
    }

    /** The keys with their values in order, asked for only through the public face. */
    static String state(PackedArray x) {
        StringBuilder text = new StringBuilder();
        int size = x.size();
        for (int k = 0; k < size; k++) {
            int key = x.select(k);
            text.append(k == 0 ? "" : " ").append(key).append('=').append(x.get(key));
        }
        return text.toString();
    }

    static void end() {
        System.out.println(wrong == 0 ? "all answers are as due" : wrong + " answers are not as due");
        if (wrong != 0) {
            System.exit(1);
        }
    }
}
