import java.util.NoSuchElementException;

/** Counts the answers that are not as due, and tells a text of RULES to a MillBoats. */
final class Check {
    private static int right = 0;
    private static int wrong = 0;

    private Check() {
    }

    static void due(String what, long got, long want) {
        if (got == want) {
            right++;
        } else {
            wrong++;
            System.out.println(what + " answered " + got + ", due is " + want);
        }
    }

    static void due(String what, boolean got, boolean want) {
        due(what, got ? 1 : 0, want ? 1 : 0);
    }

    /** Feeds a text to the TAPE, byte by byte of its signs (0 to 255). */
    static void feed(MillBoats x, String text) {
        int before = x.count(4);
        for (int from = 0; from < text.length(); from += 20) {
            int[] five = new int[5];
            for (int i = 0; i < 20; i++) {
                int b = from + i < text.length() ? text.charAt(from + i) : 32;
                five[i / 4] = five[i / 4] << 8 | b;
            }
            x.feed(five[0], five[1], five[2], five[3], five[4]);
        }
        x.end(before + text.length());
    }

    static int rules(MillBoats x, int shore, int from, String text) {
        feed(x, text);
        return x.rules(shore, from);
    }

    /** That millOf throws NoSuchElementException. */
    static void dueNoMill(MillBoats x, int mill, int what) {
        boolean thrown = false;
        try {
            x.millOf(mill, what);
        } catch (NoSuchElementException e) {
            thrown = true;
        }
        due("millOf(" + mill + ", " + what + ") throws NoSuchElementException", thrown, true);
    }

    static void finish() {
        System.out.println(right + " passed, " + wrong + " failed");
        if (wrong != 0) {
            System.exit(1);
        }
    }
}
