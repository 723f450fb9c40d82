import java.util.Arrays;
import java.util.NoSuchElementException;
import java.util.Random;

/** Runs of 512 calls by chance (the same ones each time), each answer compared with the Model's. */
public final class ModelTest {
    private static final int RUNS = 400;
    private static final int CALLS = 512;
    private static final int[] WILD = {Integer.MIN_VALUE, Integer.MAX_VALUE, -1, -2, -3, 0, 1, 5, 6, 7, 11, 12, 20,
        21, 59, 60, 71, 72, 90, 91, 199, 200, 299, 300, 399, 400, 401, 500, 501, 999, 1000, 2000, 2001, 1 << 16};

    private final Random chance;
    private final MillBoats x = new MillBoats();
    private final Model y = new Model();
    private final int wildness;
    private String call;
    private int plans;
    // what came about in all runs, so that a reader sees that they are worth something
    private static final int[] SEEN = new int[24];

    private ModelTest(long seed) {
        chance = new Random(seed);
        wildness = 10 + chance.nextInt(60);
    }

    public static void main(String[] args) {
        int runs = args.length > 0 ? Integer.parseInt(args[0]) : RUNS;
        int wrong = 0;
        for (int seed = 1; seed <= runs && wrong < 5; seed++) {
            if (!new ModelTest(seed).run(seed)) {
                wrong++;
            }
        }
        System.out.println("seen: events 1 to 5 " + Arrays.toString(Arrays.copyOfRange(SEEN, 1, 6))
                + ", RULES taken and FAULTS 1 to 4 " + Arrays.toString(Arrays.copyOfRange(SEEN, 6, 11))
                + ", PLANS and none " + Arrays.toString(Arrays.copyOfRange(SEEN, 11, 13))
                + ", MOVES -2 to 3 " + Arrays.toString(Arrays.copyOfRange(SEEN, 13, 19))
                + ", barred and quarrels " + Arrays.toString(Arrays.copyOfRange(SEEN, 19, 21))
                + ", SACKS ground " + SEEN[21] + ", TOLLS " + SEEN[22]);
        System.out.println((runs - wrong) + " passed, " + wrong + " failed");
        if (wrong != 0) {
            System.exit(1);
        }
    }

    private boolean run(int seed) {
        setUp();
        for (int i = 0; i < CALLS; i++) {
            if (!step()) {
                System.out.println("seed " + seed + ", call " + i + ": " + call);
                return false;
            }
        }
        see();
        return true;
    }

    private void see() {
        for (int k = 0; k < x.count(3); k++) {
            SEEN[x.event(k, 1)]++;
        }
        SEEN[21] += x.count(8);
        SEEN[22] += x.count(9);
    }

    private int between(int low, int high) {
        return low + chance.nextInt(high - low + 1);
    }

    /** A number from low to high, now and then another one. */
    private int some(int low, int high) {
        if (chance.nextInt(wildness) == 0) {
            return chance.nextInt(5) == 0 ? chance.nextInt() : WILD[chance.nextInt(WILD.length)];
        }
        return chance.nextInt(8) == 0 ? (chance.nextBoolean() ? low : high) : between(low, high);
    }

    private boolean same(String what, long got, long want) {
        call = what + " answered " + got + ", the model says " + want;
        return got == want;
    }

    private boolean same(String what, boolean got, boolean want) {
        return same(what, got ? 1 : 0, want ? 1 : 0);
    }

    private void setUp() {
        int top = chance.nextBoolean() ? 60 : 400;
        for (int t = 0; t < 7; t++) {
            for (int n = chance.nextInt(6); n > 0; n--) {
                int at = t == 6 ? between(0, top) : between(0, 20);
                int y0 = between(0, chance.nextInt(3) == 0 ? 400 : top);
                x.point(t, at, y0);
                y.point(t, at, y0);
            }
        }
        int deep = chance.nextInt(3) == 0 ? 12 : 3;
        for (int b = 0; b < 72; b++) {
            int v = chance.nextInt(3) == 0 ? between(0, deep) : 0;
            x.bed(b, v);
            y.bed(b, v);
        }
        int mills = between(0, 6);
        int chain = chance.nextBoolean() ? 2000 : 600;
        for (int m = 0; m < mills; m++) {
            int draught = between(1, 4);
            int wheel = between(1, 90);
            int holds = between(1, chain);
            x.mill(draught, wheel, holds);
            y.mill(draught, wheel, holds);
        }
    }

    private boolean step() {
        int one = chance.nextInt(100);
        if (one < 30) {
            return stepRiver();
        }
        if (one < 62) {
            return stepBooks();
        }
        if (one < 80) {
            return stepDay();
        }
        return stepPlan();
    }

    private boolean stepRiver() {
        int m = some(0, 5);
        int h = some(0, 20);
        switch (chance.nextInt(13)) {
            case 0: {
                int b = some(0, 71);
                return same("bed(" + b + ", " + h + ")", x.bed(b, h), y.bed(b, h));
            }
            case 1: {
                int t = some(0, 6);
                int px = some(0, t == 6 ? 400 : 20);
                int py = some(0, 400);
                return same("point(" + t + ", " + px + ", " + py + ")", x.point(t, px, py), y.point(t, px, py));
            }
            case 2: {
                int t = some(0, 6);
                int px = some(0, t == 6 ? 400 : 20);
                return same("value(" + t + ", " + px + ")", x.value(t, px), y.value(t, px));
            }
            case 3: {
                int d = some(1, 9);
                int w = some(1, 90);
                int c = some(1, 2000);
                return same("mill(" + d + ", " + w + ", " + c + ")", x.mill(d, w, c), y.mill(d, w, c));
            }
            case 4:
            case 5:
            case 6: {
                int b = chance.nextInt(6) == 0 ? -1 : chance.nextInt(3) == 0 ? some(0, 71) : some(0, 3) * 12 + some(0, 4);
                return same("moor(" + m + ", " + b + ")", x.moor(m, b), y.moor(m, b));
            }
            case 7:
                return same("dress(" + m + ")", x.dress(m), y.dress(m));
            case 8:
                return same("flow(" + m + ", " + h + ")", x.flow(m, h), y.flow(m, h));
            case 9:
                return same("power(" + m + ", " + h + ")", x.power(m, h), y.power(m, h));
            case 10: {
                boolean ice = chance.nextBoolean();
                return same("pull(" + m + ", " + h + ", " + ice + ")", x.pull(m, h, ice), y.pull(m, h, ice));
            }
            case 11: {
                int o = some(0, 5);
                return same("loss(" + m + ", " + o + ", " + h + ")", x.loss(m, o, h), y.loss(m, o, h));
            }
            default: {
                int w = some(0, 7);
                return same("millOf(" + m + ", " + w + ")", millOf(m, w), modelMillOf(m, w));
            }
        }
    }

    private long millOf(int m, int what) {
        try {
            return x.millOf(m, what);
        } catch (NoSuchElementException e) {
            return Long.MIN_VALUE;
        }
    }

    private long modelMillOf(int m, int what) {
        try {
            return y.millOf(m, what);
        } catch (NoSuchElementException e) {
            return Long.MIN_VALUE;
        }
    }

    private int nearDay() {
        return some(0, Math.min(999, y.count(2) + 6));
    }

    private int knownDay() {
        return some(0, y.count(2));
    }

    private boolean stepBooks() {
        int m = some(0, 5);
        int b = some(0, 71);
        int s = some(0, 1);
        int d = nearDay();
        int k = knownDay();
        switch (chance.nextInt(12)) {
            case 0: {
                int h = chance.nextInt(3) == 0 ? some(0, 20) : some(2, 9);
                return same("height(" + d + ", " + h + ")", x.height(d, h), y.height(d, h));
            }
            case 1: {
                boolean is = chance.nextInt(3) == 0;
                return same("ice(" + d + ", " + is + ")", x.ice(d, is), y.ice(d, is));
            }
            case 2:
                return same("heightOf(" + d + ", " + k + ")", x.heightOf(d, k), y.heightOf(d, k));
            case 3:
                return same("iceOf(" + d + ", " + k + ")", x.iceOf(d, k), y.iceOf(d, k));
            case 4: {
                int n = some(0, Math.min(400, y.count(4) + 1));
                return chance.nextInt(4) == 0 ? same("end(" + n + ")", x.end(n), y.end(n)) : feedWild();
            }
            case 5:
            case 6:
                return tellRules(s, d);
            case 7:
                return same("place()", x.place(), y.place());
            case 8:
                return stepBarred(m, b, d, k);
            case 9:
                return same("word(" + s + ", " + m + ", " + b + ", " + d + ", " + k + ")",
                        x.word(s, m, b, d, k), y.word(s, m, b, d, k));
            case 10: {
                int t = some(0, 11);
                return same("way(" + t + ", " + d + ", " + k + ")", x.way(t, d, k), y.way(t, d, k));
            }
            default: {
                int t = some(0, 11);
                return same("kept(" + t + ")", x.kept(t), y.kept(t));
            }
        }
    }

    private boolean stepBarred(int m, int b, int d, int k) {
        int got = x.barred(m, b, d, k);
        if (got > 0) {
            SEEN[(got & 3) != 0 ? 19 : 20]++;
            SEEN[20] += got >> 2;
        }
        return same("barred(" + m + ", " + b + ", " + d + ", " + k + ")", got, y.barred(m, b, d, k));
    }

    private boolean feedWild() {
        int[] n = chance.ints(5).toArray();
        return same("feed(" + Arrays.toString(n) + ")",
                x.feed(n[0], n[1], n[2], n[3], n[4]), y.feed(n[0], n[1], n[2], n[3], n[4]));
    }

    private boolean tellRules(int shore, int from) {
        if (chance.nextInt(10) != 0) {
            x.end(0);
            y.end(0);
            String text = RandomText.make(chance);
            Check.feed(x, text);
            for (int i = 0; i < text.length(); i++) {
                y.tape.add((int) text.charAt(i));
            }
            if (!same("tape of " + text, x.count(4), y.count(4))) {
                return false;
            }
            int got = x.rules(shore, from);
            SEEN[got >= 0 ? 6 : got == -1 ? 0 : 5 - got]++;
            return same("rules(" + shore + ", " + from + ") of " + text, got, y.rules(shore, from))
                    && same("place() of " + text, x.place(), y.place());
        }
        return same("rules(" + shore + ", " + from + ")", x.rules(shore, from), y.rules(shore, from));
    }

    private boolean stepDay() {
        switch (chance.nextInt(8)) {
            case 0: {
                int s = some(0, 1);
                int n = some(0, 20);
                return same("skiffs(" + s + ", " + n + ")", x.skiffs(s, n), y.skiffs(s, n));
            }
            case 1: {
                int s = some(0, 1);
                int n = chance.nextBoolean() ? some(1, 500) : some(1, 40);
                return same("order(" + s + ", " + n + ")", x.order(s, n), y.order(s, n));
            }
            case 2:
            case 3:
                return same("day()", x.day(), y.day());
            case 4: {
                int k = some(0, Math.max(0, y.count(3)));
                int w = some(0, 4);
                return same("event(" + k + ", " + w + ")", x.event(k, w), y.event(k, w));
            }
            case 5: {
                int o = some(0, Math.max(0, y.count(1)));
                int w = some(0, 4);
                return same("orderOf(" + o + ", " + w + ")", x.orderOf(o, w), y.orderOf(o, w));
            }
            default: {
                int w = some(0, 11);
                return same("count(" + w + ")", x.count(w), y.count(w));
            }
        }
    }

    private boolean stepPlan() {
        // the model's plans are slow
        switch (plans < 12 ? chance.nextInt(7) : 1 + chance.nextInt(6)) {
            case 0: {
                plans++;
                int d = chance.nextInt(3) == 0 ? some(y.count(2), 999) : some(y.count(2), y.count(2) + 3);
                int bits = chance.nextInt(40) == 0 ? chance.nextInt(64) : 1 << chance.nextInt(6) | 1 << chance.nextInt(6)
                        | 1 << chance.nextInt(6);
                int from = some(0, 11);
                int to = chance.nextInt(10) == 0 ? some(0, 11) : Math.min(11, from + between(0, 3));
                if (Integer.bitCount(bits) == 3 && to - from > 1 && chance.nextInt(4) != 0) {
                    bits &= bits - 1;
                }
                int got = x.plan(d, bits, from, to);
                SEEN[got >= 0 ? 11 : 12]++;
                return same("plan(" + d + ", " + bits + ", " + from + ", " + to + ")", got, y.plan(d, bits, from, to));
            }
            case 1:
            case 2: {
                int m = some(0, 5);
                return same("planned(" + m + ")", x.planned(m), y.planned(m));
            }
            case 3: {
                int got = x.moves();
                SEEN[15 + got]++;
                return same("moves()", got, y.moves());
            }
            case 4:
            case 5: {
                int k = some(0, 2);
                int w = some(0, 1);
                return same("move(" + k + ", " + w + ")", x.move(k, w), y.move(k, w));
            }
            default:
                return chance.nextInt(3) == 0 ? same("go()", x.go(), y.go()) : same("planned", x.planned(0), y.planned(0));
        }
    }
}
