import java.util.ArrayList;
import java.util.List;
import java.util.NoSuchElementException;

/**
 * Each call that is refused answers as the document says and changes nothing; nor does one that only tells.
 * The state is read by calls before and after, on a new object for each, within the 512 calls of an object.
 */
public final class RefusedTest {
    private static final int MIN = Integer.MIN_VALUE;
    private static final int MAX = Integer.MAX_VALUE;
    /** Too small and too large for each number but for those of which -1 says something of its own. */
    private static final int[] WILD = {MIN, -2, -1, 1000, 65536, MAX};

    private interface Call {
        long on(MillBoats x);
    }

    private static final class Refused {
        final String name;
        final Call call;
        final long due;

        Refused(String name, Call call, long due) {
            this.name = name;
            this.call = call;
            this.due = due;
        }
    }

    private static final List<Refused> CALLS = new ArrayList<>();

    private RefusedTest() {
    }

    public static void main(String[] args) {
        riverCalls();
        flowCalls();
        bookCalls();
        lawCalls();
        gristCalls();
        planCalls();
        tellingCalls();
        String before = stateOf(scene());
        for (Refused r : CALLS) {
            MillBoats x = scene();
            Check.due(r.name, r.call.on(x), r.due);
            Check.due(r.name + " changes nothing", before.equals(stateOf(x)), true);
        }
        whenFull();
        seen(before);
        Check.finish();
    }

    private static void refused(String name, long due, Call call) {
        CALLS.add(new Refused(name, call, due));
    }

    private static long bit(boolean is) {
        return is ? 1 : 0;
    }

    /**
     * DAY 1, MILL 0 at BERTH 26, MILL 1 ASHORE, MILL 2 GONE, MILL 3 DRESSED at BERTH 13; 17 bytes on the TAPE;
     * a PLAN of MILLS 0 and 1.
     */
    private static MillBoats scene() {
        MillBoats x = new MillBoats();
        for (int t = 0; t < 6; t++) {
            x.point(t, 0, 30 + t);
            x.point(t, 20, 90 - t);
        }
        x.point(6, 0, 0);
        x.point(6, 100, 60);
        x.mill(2, 20, 500);
        x.mill(1, 30, 500);
        x.mill(1, 40, 1);
        x.mill(1, 10, 500);
        x.bed(26, 1);
        x.moor(0, 26);
        x.moor(2, 71);
        x.moor(3, 13);
        x.skiffs(0, 7);
        x.skiffs(1, 3);
        x.order(0, 70);
        x.order(1, 50);
        x.height(0, 6);
        x.height(2, 9);
        x.ice(2, true);
        Check.rules(x, 0, 0, "way 2 if stretch>4;forbid if lane=0 and stretch=1;");
        Check.rules(x, 1, 1, "toll 1 of 3 if 1=1;allow if lane=3;");
        x.day();
        x.dress(3);
        x.plan(1, 3, 0, 0);
        Check.rules(x, 0, 0, "way 9");
        Check.feed(x, "forbid if lane=1;");
        return x;
    }

    private static String stateOf(MillBoats x) {
        StringBuilder s = new StringBuilder();
        for (int what = 0; what < 12; what++) {
            add(s, x.count(what));
        }
        for (int m = 0; m < 4; m++) {
            for (int what = 0; what < 8; what++) {
                add(s, x.millOf(m, what));
            }
            add(s, x.planned(m));
            add(s, x.power(m, 6));
            add(s, x.pull(m, 9, true));
        }
        for (int t = 0; t < 7; t++) {
            add(s, x.value(t, 0));
            add(s, x.value(t, 7));
            add(s, x.value(t, 200));
        }
        for (int o = 0; o < 3; o++) {
            for (int what = 0; what < 5; what++) {
                add(s, x.orderOf(o, what));
            }
        }
        books(s, x);
        for (int k = 0; k < 3; k++) {
            add(s, x.move(k, 0));
            add(s, x.move(k, 1));
            for (int what = 0; what < 5; what++) {
                add(s, x.event(k, what));
            }
        }
        add(s, x.moves());
        add(s, x.place());
        // what is on the TAPE is seen by telling it; a DAY shows the SKIFFS
        add(s, x.rules(0, 5));
        add(s, x.day());
        add(s, x.count(8));
        add(s, x.count(9));
        return s.toString();
    }

    private static void books(StringBuilder s, MillBoats x) {
        for (int k = 0; k < 2; k++) {
            for (int d = 0; d < 4; d++) {
                add(s, x.heightOf(d, k));
                add(s, x.iceOf(d, k));
                add(s, x.way(5, d, k));
                add(s, x.barred(1, 1, d, k));
                add(s, x.word(1, 1, 36, d, k));
            }
        }
        for (int stretch = 0; stretch < 12; stretch++) {
            add(s, x.kept(stretch));
        }
    }

    private static void add(StringBuilder s, long answer) {
        s.append(answer).append(' ');
    }

    private static void riverCalls() {
        for (int w : WILD) {
            refused("2 bed(" + w + ", 3)", 0, x -> bit(x.bed(w, 3)));
            refused("2 bed(26, " + w + ")", 0, x -> bit(x.bed(26, w)));
            refused("3 point(" + w + ", 0, 5)", 0, x -> bit(x.point(w, 0, 5)));
            refused("3 point(0, " + w + ", 5)", 0, x -> bit(x.point(0, w, 5)));
            refused("3 point(0, 0, " + w + ")", 0, x -> bit(x.point(0, 0, w)));
            refused("4 value(" + w + ", 0)", -1, x -> x.value(w, 0));
            refused("5 mill(" + w + ", 1, 1)", -1, x -> x.mill(w, 1, 1));
            refused("5 mill(1, " + w + ", 1)", -1, x -> x.mill(1, w, 1));
            refused("6 moor(" + w + ", 5)", -1, x -> x.moor(w, 5));
            refused("7 dress(" + w + ")", 0, x -> bit(x.dress(w)));
        }
        int[] chains = {MIN, -1, 0, 2001, MAX};
        for (int c : chains) {
            refused("5 mill(1, 1, " + c + ")", -1, x -> x.mill(1, 1, c));
        }
        int[] berths = {MIN, -3, -2, 72, MAX};
        for (int b : berths) {
            refused("6 moor(0, " + b + ")", -1, x -> x.moor(0, b));
        }
        refused("2 bed(72, 0)", 0, x -> bit(x.bed(72, 0)));
        refused("2 bed(26, 21)", 0, x -> bit(x.bed(26, 21)));
        refused("3 point(7, 0, 0)", 0, x -> bit(x.point(7, 0, 0)));
        refused("3 point(6, 401, 0)", 0, x -> bit(x.point(6, 401, 0)));
        refused("3 point(6, 0, 401)", 0, x -> bit(x.point(6, 0, 401)));
        refused("4 value(7, 0)", -1, x -> x.value(7, 0));
        refused("5 mill(0, 1, 1)", -1, x -> x.mill(0, 1, 1));
        refused("5 mill(10, 1, 1)", -1, x -> x.mill(10, 1, 1));
        refused("5 mill(1, 0, 1)", -1, x -> x.mill(1, 0, 1));
        refused("5 mill(1, 91, 1)", -1, x -> x.mill(1, 91, 1));
        refused("6 moor(4, 5)", -1, x -> x.moor(4, 5));
        refused("6 moor(4, 72)", -1, x -> x.moor(4, 72));
        refused("6 moor(2, 5): GONE", -2, x -> x.moor(2, 5));
        refused("6 moor(2, -1): GONE", -2, x -> x.moor(2, -1));
        refused("6 moor(2, 13): GONE, and another one lies there", -2, x -> x.moor(2, 13));
        refused("6 moor(1, 13): another one lies there", -3, x -> x.moor(1, 13));
        refused("6 moor(0, 13): another one lies there", -3, x -> x.moor(0, 13));
        refused("7 dress(4)", 0, x -> bit(x.dress(4)));
        refused("7 dress(2): GONE", 0, x -> bit(x.dress(2)));
        refused("7 dress(3): so already", 0, x -> bit(x.dress(3)));
    }

    private static void flowCalls() {
        int[] mills = {MIN, -1, 1, 2, 4, MAX};
        for (int m : mills) {
            refused("8 flow(" + m + ", 5)", -1, x -> x.flow(m, 5));
            refused("9 power(" + m + ", 5)", -1, x -> x.power(m, 5));
            refused("10 pull(" + m + ", 5, true)", -1, x -> x.pull(m, 5, true));
            refused("11 loss(" + m + ", 0, 5)", -1, x -> x.loss(m, 0, 5));
            refused("11 loss(0, " + m + ", 5)", -1, x -> x.loss(0, m, 5));
            refused("11 loss(" + m + ", " + m + ", 5)", -1, x -> x.loss(m, m, 5));
        }
        int[] heights = {MIN, -1, 21, MAX};
        for (int h : heights) {
            refused("8 flow(0, " + h + ")", -1, x -> x.flow(0, h));
            refused("9 power(0, " + h + ")", -1, x -> x.power(0, h));
            refused("10 pull(0, " + h + ", false)", -1, x -> x.pull(0, h, false));
            refused("11 loss(0, 3, " + h + ")", -1, x -> x.loss(0, 3, h));
        }
        refused("11 loss(0, 0, 5)", -1, x -> x.loss(0, 0, 5));
    }

    private static void bookCalls() {
        for (int w : WILD) {
            refused("12 height(" + w + ", 4)", 0, x -> bit(x.height(w, 4)));
            refused("12 height(1, " + w + ")", 0, x -> bit(x.height(1, w)));
            refused("13 ice(" + w + ", true)", 0, x -> bit(x.ice(w, true)));
            refused("14 heightOf(" + w + ", 0)", -1, x -> x.heightOf(w, 0));
            refused("14 heightOf(0, " + w + ")", -1, x -> x.heightOf(0, w));
            refused("15 iceOf(" + w + ", 0)", -1, x -> x.iceOf(w, 0));
            refused("15 iceOf(0, " + w + ")", -1, x -> x.iceOf(0, w));
            refused("17 end(" + w + ")", -1, x -> x.end(w));
            refused("18 rules(" + w + ", 0)", -1, x -> x.rules(w, 0));
            refused("18 rules(0, " + w + ")", -1, x -> x.rules(0, w));
        }
        refused("12 height(1, 21)", 0, x -> bit(x.height(1, 21)));
        refused("14 heightOf(0, 2)", -1, x -> x.heightOf(0, 2));
        refused("15 iceOf(0, 2)", -1, x -> x.iceOf(0, 2));
        refused("17 end(18)", -1, x -> x.end(18));
        refused("17 end(17): all of them stay", 17, x -> x.end(17));
        refused("18 rules(2, 0)", -1, x -> x.rules(2, 0));
    }

    private static void lawCalls() {
        for (int w : WILD) {
            refused("20 barred(" + w + ", 1, 0, 0)", -1, x -> x.barred(w, 1, 0, 0));
            refused("20 barred(0, " + w + ", 0, 0)", -1, x -> x.barred(0, w, 0, 0));
            refused("20 barred(0, 1, " + w + ", 0)", -1, x -> x.barred(0, 1, w, 0));
            refused("20 barred(0, 1, 0, " + w + ")", -1, x -> x.barred(0, 1, 0, w));
            refused("21 word(" + w + ", 0, 1, 0, 0)", -1, x -> x.word(w, 0, 1, 0, 0));
            refused("21 word(0, " + w + ", 1, 0, 0)", -1, x -> x.word(0, w, 1, 0, 0));
            refused("21 word(0, 0, " + w + ", 0, 0)", -1, x -> x.word(0, 0, w, 0, 0));
            refused("21 word(0, 0, 1, " + w + ", 0)", -1, x -> x.word(0, 0, 1, w, 0));
            refused("21 word(0, 0, 1, 0, " + w + ")", -1, x -> x.word(0, 0, 1, 0, w));
            refused("22 way(" + w + ", 0, 0)", -1, x -> x.way(w, 0, 0));
            refused("22 way(5, " + w + ", 0)", -1, x -> x.way(5, w, 0));
            refused("22 way(5, 0, " + w + ")", -1, x -> x.way(5, 0, w));
            refused("23 kept(" + w + ")", -1, x -> x.kept(w));
        }
        refused("20 barred(4, 1, 0, 0)", -1, x -> x.barred(4, 1, 0, 0));
        refused("20 barred(0, 72, 0, 0)", -1, x -> x.barred(0, 72, 0, 0));
        refused("20 barred(0, 1, 0, 2)", -1, x -> x.barred(0, 1, 0, 2));
        refused("21 word(2, 0, 1, 0, 0)", -1, x -> x.word(2, 0, 1, 0, 0));
        refused("21 word(0, 4, 1, 0, 0)", -1, x -> x.word(0, 4, 1, 0, 0));
        refused("21 word(0, 0, 72, 0, 0)", -1, x -> x.word(0, 0, 72, 0, 0));
        refused("21 word(0, 0, 1, 0, 2)", -1, x -> x.word(0, 0, 1, 0, 2));
        refused("22 way(12, 0, 0)", -1, x -> x.way(12, 0, 0));
        refused("22 way(5, 0, 2)", -1, x -> x.way(5, 0, 2));
        refused("23 kept(12)", -1, x -> x.kept(12));
    }

    private static void gristCalls() {
        for (int w : WILD) {
            refused("24 skiffs(" + w + ", 9)", 0, x -> bit(x.skiffs(w, 9)));
            refused("24 skiffs(0, " + w + ")", 0, x -> bit(x.skiffs(0, w)));
            refused("25 order(" + w + ", 9)", -1, x -> x.order(w, 9));
            refused("25 order(0, " + w + ")", -1, x -> x.order(0, w));
            refused("27 event(" + w + ", 0)", -1, x -> x.event(w, 0));
            refused("27 event(0, " + w + ")", -1, x -> x.event(0, w));
            refused("33 millOf(" + w + ", 0)", 1, x -> noMill(x, w, 0));
            refused("33 millOf(0, " + w + ")", 1, x -> noMill(x, 0, w));
            refused("34 orderOf(" + w + ", 0)", -1, x -> x.orderOf(w, 0));
            refused("34 orderOf(0, " + w + ")", -1, x -> x.orderOf(0, w));
            refused("35 count(" + w + ")", -1, x -> x.count(w));
        }
        refused("24 skiffs(2, 9)", 0, x -> bit(x.skiffs(2, 9)));
        refused("24 skiffs(0, 21)", 0, x -> bit(x.skiffs(0, 21)));
        refused("25 order(2, 9)", -1, x -> x.order(2, 9));
        refused("25 order(0, 0)", -1, x -> x.order(0, 0));
        refused("25 order(0, 501)", -1, x -> x.order(0, 501));
        refused("27 event(2, 0)", -1, x -> x.event(2, 0));
        refused("27 event(0, 5)", -1, x -> x.event(0, 5));
        refused("33 millOf(4, 0)", 1, x -> noMill(x, 4, 0));
        refused("33 millOf(0, 8)", 1, x -> noMill(x, 0, 8));
        refused("34 orderOf(2, 0)", -1, x -> x.orderOf(2, 0));
        refused("34 orderOf(0, 5)", -1, x -> x.orderOf(0, 5));
        refused("35 count(12)", -1, x -> x.count(12));
    }

    private static long noMill(MillBoats x, int mill, int what) {
        try {
            x.millOf(mill, what);
            return 0;
        } catch (NoSuchElementException e) {
            return 1;
        }
    }

    private static void planCalls() {
        for (int w : WILD) {
            refused("28 plan(" + w + ", 1, 0, 0)", -1, x -> x.plan(w, 1, 0, 0));
            refused("28 plan(1, " + w + ", 0, 0)", -1, x -> x.plan(1, w, 0, 0));
            refused("28 plan(1, 1, " + w + ", 3)", -1, x -> x.plan(1, 1, w, 3));
            refused("28 plan(1, 1, 8, " + w + ")", -1, x -> x.plan(1, 1, 8, w));
            refused("28 plan(1, 1, " + w + ", " + w + ")", -1, x -> x.plan(1, 1, w, w));
            refused("29 planned(" + w + ")", -2, x -> x.planned(w));
            refused("31 move(" + w + ", 0)", -1, x -> x.move(w, 0));
            refused("31 move(0, " + w + ")", -1, x -> x.move(0, w));
        }
        refused("28 a DAY that has gone by", -1, x -> x.plan(0, 1, 0, 0));
        refused("28 no MILL", -1, x -> x.plan(1, 0, 0, 0));
        refused("28 a MILL that is GONE", -1, x -> x.plan(1, 4, 0, 0));
        refused("28 a MILL that is GONE and another one", -1, x -> x.plan(1, 5, 0, 0));
        refused("28 a MILL that there isn't", -1, x -> x.plan(1, 16, 0, 0));
        refused("28 a MILL that there isn't and another one", -1, x -> x.plan(1, 17, 0, 0));
        refused("28 bit 31", -1, x -> x.plan(1, MIN + 1, 0, 0));
        refused("28 five STRETCHES", -1, x -> x.plan(1, 1, 0, 4));
        refused("28 from the last to the first", -1, x -> x.plan(1, 1, 1, 0));
        refused("28 a STRETCH 12", -1, x -> x.plan(1, 1, 9, 12));
        refused("29 planned(2)", -2, x -> x.planned(2));
        refused("31 move(2, 0)", -1, x -> x.move(2, 0));
        refused("31 move(0, 2)", -1, x -> x.move(0, 2));
    }

    /** Those that are not refused and only tell. */
    private static void tellingCalls() {
        refused("4 value", 30, x -> x.value(0, 0));
        refused("8 flow at another HEIGHT", 88, x -> x.flow(0, 20));
        refused("11 loss", 0, x -> x.loss(0, 3, 20));
        refused("14 heightOf", 9, x -> x.heightOf(999, 1));
        refused("15 iceOf", 1, x -> x.iceOf(2, 1));
        refused("19 place", 4, x -> x.place());
        refused("20 barred, wherever it is", 1, x -> x.barred(2, 1, 0, 0));
        refused("21 word", 1, x -> x.word(0, 2, 1, 0, 0));
        refused("22 way", 2, x -> x.way(5, 0, 0));
        refused("23 kept", 1, x -> x.kept(5));
        // MILL 0 is WORN by 5: 27 and 30 at BERTHS 36 and 60 are as much as 28 and 29 at 60 and 36
        refused("29 planned, MILL 0", 36, x -> x.planned(0));
        refused("29 planned, MILL 1", 60, x -> x.planned(1));
        refused("30 moves", 2, x -> x.moves());
        refused("33 millOf", 0, x -> x.millOf(0, 7));
    }

    /** What is refused only when as many are there as may be. */
    private static void whenFull() {
        full("3 a ninth POINT", 0, x -> {
            for (int i = 3; i <= 8; i++) {
                Check.due("3 a POINT", x.point(0, 20 + i, i), true);
            }
        }, x -> bit(x.point(0, 19, 0)));
        full("5 a seventh MILL", -1, x -> {
            Check.due("5 a fifth MILL", x.mill(1, 1, 1), 4);
            Check.due("5 a sixth MILL", x.mill(1, 1, 1), 5);
        }, x -> x.mill(1, 1, 1));
        full("12 a 201st HEIGHT", 0, x -> {
            for (int i = 2; i < 200; i++) {
                Check.due("12 a HEIGHT", x.height(900, 5), true);
            }
        }, x -> bit(x.height(0, 20)));
        full("13 a 201st ICE", 0, x -> {
            for (int i = 1; i < 200; i++) {
                Check.due("13 ICE", x.ice(900, true), true);
            }
        }, x -> bit(x.ice(0, true)));
        full("16 more than 400 bytes", -1, x -> {
            for (int n = 37; n <= 397; n += 20) {
                Check.due("16 bytes", x.feed(1, 2, 3, 4, 5), n);
            }
        }, x -> x.feed(6, 7, 8, 9, 10));
        full("18 a thirteenth text", -1, x -> {
            for (int i = 1; i < 12; i++) {
                Check.due("18 a text", x.rules(0, 900), i == 1 ? 1 : 0);
            }
            Check.feed(x, "forbid if 1=1;");
        }, x -> x.rules(0, 0));
        full("25 a 61st ORDER", -1, x -> {
            for (int i = 2; i < 60; i++) {
                Check.due("25 an ORDER", x.order(1, 1), i);
            }
        }, x -> x.order(1, 1));
    }

    /** Calls that are not refused change what is read of the state, or else it would show nothing. */
    private static void seen(String before) {
        CALLS.clear();
        refused("2 bed", 1, x -> bit(x.bed(26, 5)));
        refused("3 point", 1, x -> bit(x.point(6, 0, 9)));
        refused("5 mill", 4, x -> x.mill(1, 1, 1));
        refused("6 moor", 0, x -> x.moor(1, 0));
        refused("6 moor ASHORE", 0, x -> x.moor(0, -1));
        refused("7 dress", 1, x -> bit(x.dress(0)));
        refused("12 height", 1, x -> bit(x.height(1, 3)));
        refused("13 ice", 1, x -> bit(x.ice(3, true)));
        refused("16 feed", 37, x -> x.feed(1, 2, 3, 4, 5));
        refused("17 end", 3, x -> x.end(3));
        refused("18 rules", 1, x -> x.rules(0, 0));
        refused("18 rules of SHORE 1", 1, x -> x.rules(1, 0));
        refused("24 skiffs", 1, x -> bit(x.skiffs(0, 0)));
        refused("24 skiffs of SHORE 1", 1, x -> bit(x.skiffs(1, 0)));
        refused("25 order", 2, x -> x.order(0, 1));
        refused("26 day", 2, x -> x.day());
        refused("28 plan", 26 + 30 + 28, x -> x.plan(1, 2, 3, 3));
        refused("32 go", 2, x -> x.go());
        for (Refused r : CALLS) {
            MillBoats x = scene();
            Check.due(r.name, r.call.on(x), r.due);
            Check.due(r.name + " is seen", before.equals(stateOf(x)), false);
        }
    }

    private interface Filling {
        void of(MillBoats x);
    }

    private static void full(String name, long due, Filling filling, Call call) {
        MillBoats before = scene();
        filling.of(before);
        MillBoats x = scene();
        filling.of(x);
        Check.due(name, call.on(x), due);
        Check.due(name + " changes nothing", stateOf(before).equals(stateOf(x)), true);
    }
}
