/** Promises 24 to 27 and 33 to 35: SKIFFS, ORDERS, the DAY that goes by, its EVENTS, and what is told of all. */
public final class DayTest {
    private DayTest() {
    }

    public static void main(String[] args) {
        skiffs();
        orders();
        days();
        breaks();
        pullsWithIce();
        choosesLanes();
        hits();
        hitsOn();
        caughtBehindOneThatIsAground();
        shadowsAsTheyDrift();
        hitAndThenAtItsTurn();
        eventsUpTo300();
        turns();
        rows();
        whoGrinds();
        tolls();
        tollScene();
        millOf();
        orderOf();
        count();
        Check.finish();
    }

    private static void skiffs() {
        MillBoats x = new MillBoats();
        Check.due("24 SHORE -1", x.skiffs(-1, 1), false);
        Check.due("24 SHORE 2", x.skiffs(2, 1), false);
        Check.due("24 -1", x.skiffs(0, -1), false);
        Check.due("24 21", x.skiffs(0, 21), false);
        Check.due("24 0", x.skiffs(0, 0), true);
        Check.due("24 20", x.skiffs(1, 20), true);
    }

    private static void orders() {
        MillBoats x = new MillBoats();
        Check.due("25 SHORE -1", x.order(-1, 1), -1);
        Check.due("25 SHORE 2", x.order(2, 1), -1);
        Check.due("25 0 SACKS", x.order(0, 0), -1);
        Check.due("25 501 SACKS", x.order(0, 501), -1);
        for (int o = 0; o < 60; o++) {
            Check.due("25 ORDER", x.order(o % 2, o == 0 ? 500 : o), o);
        }
        Check.due("25 a 61st", x.order(0, 1), -1);
        Check.due("25 60 came", x.count(1), 60);
        Check.due("25 SACKS left", x.count(7), 500 + 59 * 60 / 2);
    }

    private static void days() {
        MillBoats x = new MillBoats();
        for (int d = 1; d <= 999; d++) {
            if (d == 1 || d == 999) {
                Check.due("26 the next DAY", x.day(), d);
            } else {
                x.day();
            }
        }
        x.point(0, 0, 400);
        x.mill(1, 90, 1);
        x.moor(0, 0);
        Check.due("26 it is 999", x.day(), -1);
        Check.due("26 nothing happens", x.count(3), 0);
        Check.due("26 it is still 999", x.count(2), 999);
        Check.due("26 known on DAY 999", x.heightOf(0, 999), 5);
    }

    /** TABLE of each LANE has one VALUE. */
    private static MillBoats river(int... values) {
        MillBoats x = new MillBoats();
        for (int t = 0; t < values.length; t++) {
            x.point(t, 0, values[t]);
        }
        return x;
    }

    /** A MILL of DRAUGHT 1 and WHEEL 20, whose PULL is twice FLOW, at a BERTH. */
    private static void laid(MillBoats x, int chain, int berth) {
        int m = x.mill(1, 20, chain);
        x.moor(m, berth);
    }

    private static void event(MillBoats x, int k, int day, int which, int mill, int other, int berth) {
        int[] due = {day, which, mill, other, berth};
        for (int what = 0; what < 5; what++) {
            Check.due("27 event(" + k + ", " + what + ")", x.event(k, what), due[what]);
        }
    }

    private static void breaks() {
        MillBoats x = river(100);
        laid(x, 199, 0);
        laid(x, 200, 12);
        x.point(1, 0, 100);
        x.day();
        event(x, 0, 0, 1, 0, -1, 0);
        event(x, 1, 0, 5, 0, -1, -1);
        Check.due("27 one that doesn't break", x.millOf(1, 0), 12);
        Check.due("27 GONE", x.millOf(0, 0), -2);
        Check.due("27 two EVENTS", x.count(3), 2);
        Check.due("27 k -1", x.event(-1, 0), -1);
        Check.due("27 k 2", x.event(2, 0), -1);
        Check.due("27 what -1", x.event(0, -1), -1);
        Check.due("27 what 5", x.event(0, 5), -1);
        Check.due("27 k MAX", x.event(Integer.MAX_VALUE, 0), -1);
        Check.due("27 k MIN", x.event(Integer.MIN_VALUE, 4), -1);
        x.height(1, 0);
        x.day();
        Check.due("27 one that doesn't FLOAT stays", x.count(3), 2);
    }

    private static void pullsWithIce() {
        MillBoats x = river(100);
        laid(x, 399, 11);
        x.day();
        Check.due("26 no ICE", x.count(3), 0);
        x.ice(1, true);
        x.ice(2, true);
        x.day();
        event(x, 0, 1, 1, 0, -1, 11);
        event(x, 1, 1, 5, 0, -1, -1);
        MillBoats y = river(100);
        laid(y, 399, 11);
        y.ice(0, true);
        y.ice(0, false);
        y.day();
        Check.due("26 ICE as known on the DAY", y.count(3), 0);
    }

    private static void choosesLanes() {
        // of the same VALUE its own LANE first
        Check.due("26 its own LANE", drifted(new int[] {70, 70, 70}, 12), 12 + 11);
        Check.due("26 one less", drifted(new int[] {80, 70, 80}, 12), 11);
        Check.due("26 one more", drifted(new int[] {70, 70, 80}, 12), 24 + 11);
        Check.due("26 on and on", drifted(new int[] {70, 71, 72, 73, 74, 75}, 6), 5 * 12 + 11);
        Check.due("26 no more LANES than there are", drifted(new int[] {80, 70}, 5), 11);
        Check.due("26 LANE 5", drifted(new int[] {0, 0, 0, 0, 90, 80}, 60), 48 + 11);
        MillBoats x = river(90, 80, 80);
        x.mill(3, 20, 1);
        x.moor(0, 12);
        x.bed(1, 3);
        x.bed(13, 3);
        x.bed(25, 2);
        x.bed(14, 9);
        x.bed(26, 9);
        x.bed(38, 9);
        x.day();
        event(x, 1, 0, 4, 0, -1, 25);
        Check.due("26 of those that are deep enough", x.millOf(0, 0), 25);
        Check.due("26 two EVENTS", x.count(3), 2);
        x.bed(14, 2);
        x.day();
        event(x, 2, 1, 1, 0, -1, 25);
        event(x, 3, 1, 5, 0, -1, -1);
    }

    /** Where in STRETCH 11 a MILL that breaks comes by. */
    private static int drifted(int[] values, int from) {
        // each LANE of STRETCH 11 is tried: the one that it comes by is the one whose MILL is HIT
        for (int lane = 0; lane < values.length; lane++) {
            MillBoats y = river(values);
            laid(y, 1, from);
            laid(y, 1, lane * 12 + 11);
            y.day();
            for (int k = 0; k < y.count(3); k++) {
                if (y.event(k, 1) == 2) {
                    return y.event(k, 4);
                }
            }
        }
        return -1;
    }

    private static void hits() {
        for (int chain = 369; chain <= 370; chain++) {
            MillBoats x = river(100);
            laid(x, 100, 0);
            laid(x, chain, 2);
            x.day();
            if (chain == 369) {
                event(x, 1, 0, 2, 1, 0, 2);
                event(x, 2, 0, 5, 1, -1, -1);
                event(x, 3, 0, 5, 0, -1, -1);
                Check.due("26 both GONE", x.count(11), 2);
            } else {
                event(x, 1, 0, 3, 0, 1, 1);
                Check.due("26 CAUGHT where it is", x.millOf(0, 0), 1);
                Check.due("26 the other one stays", x.millOf(1, 0), 2);
            }
        }
        MillBoats y = river(100);
        laid(y, 100, 1);
        laid(y, 100, 2);
        y.bed(2, 9);
        y.bed(14, 9);
        y.day();
        event(y, 1, 0, 4, 0, -1, 1);
    }

    private static void hitsOn() {
        // 0 drifts onto 1, which is HIT and drifts with its own PULL onto 2, which is HIT too
        MillBoats x = river(100);
        laid(x, 100, 0);
        laid(x, 300, 1);
        laid(x, 329, 3);
        x.day();
        event(x, 0, 0, 1, 0, -1, 0);
        event(x, 1, 0, 2, 1, 0, 1);
        // PULL of 2 is (100 - 15 - 5) * 2 as both others lie ahead, that with which 1 broke is 170
        event(x, 2, 0, 2, 2, 1, 3);
        event(x, 3, 0, 5, 2, -1, -1);
        Check.due("26 all GONE", x.count(11), 3);
        MillBoats y = river(100);
        laid(y, 100, 0);
        laid(y, 300, 1);
        laid(y, 340, 2);
        y.day();
        event(y, 1, 0, 2, 1, 0, 1);
        event(y, 2, 0, 3, 1, 2, 1);
        event(y, 3, 0, 3, 0, 1, 0);
        Check.due("26 0 where it was", y.millOf(0, 0), 0);
        Check.due("26 1 where it was", y.millOf(1, 0), 1);
        Check.due("26 2 where it was", y.millOf(2, 0), 2);
        Check.due("26 four EVENTS", y.count(3), 4);
        MillBoats z = river(100);
        laid(z, 340, 2);
        laid(z, 300, 1);
        laid(z, 100, 0);
        z.bed(3, 9);
        z.bed(15, 9);
        z.moor(0, 3);
        z.day();
        // 2 breaks, 1 is HIT, goes to 2 and is AGROUND there; 2 goes on to 1 and hits it there again
        event(z, 0, 0, 1, 2, -1, 0);
        event(z, 1, 0, 2, 1, 2, 1);
        event(z, 2, 0, 4, 1, -1, 2);
        event(z, 3, 0, 2, 1, 2, 2);
        event(z, 4, 0, 4, 1, -1, 2);
        event(z, 5, 0, 3, 2, 1, 1);
        Check.due("26 six EVENTS", z.count(3), 6);
    }

    private static void caughtBehindOneThatIsAground() {
        MillBoats x = river(100);
        laid(x, 100, 0);
        laid(x, 300, 1);
        x.bed(2, 9);
        x.bed(14, 9);
        x.day();
        event(x, 1, 0, 2, 1, 0, 1);
        event(x, 2, 0, 4, 1, -1, 1);
        event(x, 3, 0, 3, 0, 1, 0);
        Check.due("26 it lies on", x.millOf(0, 0), 0);
    }

    private static void shadowsAsTheyDrift() {
        // the one that drifts lies ahead of the one that it comes to: PULL there is 170, not 200
        MillBoats x = river(100);
        laid(x, 100, 0);
        laid(x, 371, 5);
        x.day();
        event(x, 1, 0, 3, 0, 1, 4);
        MillBoats y = river(100);
        laid(y, 100, 0);
        laid(y, 369, 5);
        y.day();
        event(y, 1, 0, 2, 1, 0, 5);
        // with ICE both are twice as much
        MillBoats z = river(100);
        z.ice(0, true);
        laid(z, 100, 0);
        laid(z, 740, 5);
        z.day();
        event(z, 1, 0, 3, 0, 1, 4);
        MillBoats w = river(100);
        w.ice(0, true);
        laid(w, 100, 0);
        laid(w, 739, 5);
        w.day();
        event(w, 1, 0, 2, 1, 0, 5);
    }

    private static void hitAndThenAtItsTurn() {
        // 1 is HIT by 0 and drifts AGROUND to where it has no one ahead near by: at its turn it breaks by itself
        MillBoats x = river(100);
        laid(x, 100, 0);
        laid(x, 180, 2);
        for (int lane = 0; lane < 2; lane++) {
            x.bed(lane * 12 + 9, 9);
        }
        x.day();
        event(x, 0, 0, 1, 0, -1, 0);
        event(x, 1, 0, 2, 1, 0, 2);
        event(x, 2, 0, 4, 1, -1, 8);
        event(x, 3, 0, 2, 1, 0, 8);
        event(x, 4, 0, 4, 1, -1, 8);
        event(x, 5, 0, 3, 0, 1, 7);
        Check.due("26 in the SHADOW it doesn't break", x.count(3), 6);
        MillBoats y = river(100);
        laid(y, 100, 0);
        laid(y, 180, 2);
        // STRETCH 3 is deep enough for 1 in LANE 1 alone, from where it goes AGROUND without a SHADOW
        y.point(1, 0, 100);
        y.bed(3, 9);
        y.bed(4, 9);
        y.bed(16, 9);
        y.bed(28, 9);
        y.day();
        event(y, 1, 0, 2, 1, 0, 2);
        event(y, 2, 0, 4, 1, -1, 15);
        event(y, 3, 0, 2, 1, 0, 15);
        event(y, 4, 0, 4, 1, -1, 15);
        event(y, 5, 0, 3, 0, 1, 2);
        event(y, 6, 0, 1, 1, -1, 15);
        event(y, 7, 0, 4, 1, -1, 15);
    }

    private static void eventsUpTo300() {
        MillBoats x = river(100);
        laid(x, 1, 0);
        x.bed(1, 9);
        x.bed(13, 9);
        for (int d = 0; d < 149; d++) {
            x.day();
        }
        Check.due("27 298 EVENTS", x.count(3), 298);
        laid(x, 1, 60);
        x.point(5, 0, 100);
        x.day();
        Check.due("27 300 EVENTS", x.count(3), 300);
        event(x, 299, 149, 4, 0, -1, 0);
        Check.due("27 a later one isn't told", x.event(300, 0), -1);
        Check.due("27 but it comes about", x.millOf(1, 0), -2);
    }

    private static void turns() {
        // POWER is FLOW; two MILLS, one ORDER of 60 a DAY for both
        MillBoats x = river(40, 40);
        x.point(6, 0, 0);
        x.point(6, 40, 40);
        laid(x, 2000, 0);
        laid(x, 2000, 1 + 12);
        laid(x, 2000, -1);
        x.skiffs(0, 20);
        x.order(0, 60);
        x.day();
        Check.due("26 DAY 0: MILL 0 first", x.millOf(0, 5), 40);
        Check.due("26 DAY 0: then MILL 1", x.millOf(1, 5), 20);
        x.dress(0);
        x.dress(1);
        x.day();
        x.order(0, 60);
        x.dress(1);
        x.day();
        Check.due("26 DAY 2: MILL 0 alone", x.millOf(0, 5), 80);
        x.day();
        Check.due("26 DAY 3: MILL 0 first", x.millOf(0, 5), 100);
        Check.due("26 DAY 3: none is left", x.millOf(1, 5), 20);
        x.order(0, 60);
        x.dress(0);
        x.day();
        Check.due("26 DAY 4: MILL 1 first", x.millOf(1, 5), 60);
        Check.due("26 DAY 4: MILL 0 is DRESSED", x.millOf(0, 5), 100);
        x.moor(2, 14 + 24);
        x.point(3, 0, 40);
        x.dress(1);
        x.day();
        Check.due("26 DAY 5: MILL 2 first", x.millOf(2, 5), 20);
        Check.due("26 DAY 5: MILL 0 after it", x.millOf(0, 5), 100);
        x.order(0, 70);
        x.dress(1);
        x.day();
        x.order(0, 70);
        x.day();
        Check.due("26 DAY 7: MILL 1 first", x.millOf(1, 5), 100);
        Check.due("26 DAY 7: then MILL 2", x.millOf(2, 5) > 20, true);
    }

    private static void rows() {
        // LANE 2: 3 ROWS a SACK of SHORE 0, 4 of SHORE 1
        MillBoats x = river(0, 0, 40);
        x.point(6, 0, 400);
        laid(x, 2000, 24);
        x.skiffs(0, 1);
        x.skiffs(1, 1);
        x.order(0, 6);
        x.order(1, 5);
        x.order(0, 500);
        x.order(1, 500);
        x.day();
        Check.due("26 all of the first", x.orderOf(0, 2), 0);
        Check.due("26 all of the second", x.orderOf(1, 2), 0);
        Check.due("26 what ROWS are left bring", x.orderOf(2, 2), 496);
        Check.due("26 and those of SHORE 1", x.orderOf(3, 2), 498);
        x.skiffs(0, 0);
        x.skiffs(1, 20);
        x.day();
        Check.due("26 no SKIFFS", x.orderOf(2, 2), 496);
        Check.due("26 new ROWS each DAY", x.orderOf(3, 2), 498 - 150);
        // two MILLS share the ROWS of a DAY
        MillBoats y = river(40, 40, 40, 40, 40, 40);
        y.point(6, 0, 7);
        laid(y, 2000, 60);
        laid(y, 2000, 0);
        y.skiffs(1, 1);
        y.order(1, 500);
        y.day();
        Check.due("26 LANE 5 takes 1 ROW a SACK", y.millOf(0, 5), 7);
        Check.due("26 LANE 0 takes 6 of the 23 that are left", y.millOf(1, 5), 3);
    }

    private static void whoGrinds() {
        MillBoats x = river(40, 40, 40, 40);
        x.point(6, 0, 10);
        x.skiffs(0, 20);
        x.order(0, 500);
        laid(x, 2000, 0);
        laid(x, 2000, 24);
        laid(x, 2000, 36);
        laid(x, 2000, -1);
        laid(x, 2000, 1);
        x.bed(1, 5);
        Check.rules(x, 0, 0, "forbid if mill=0;allow if mill=2;");
        Check.rules(x, 1, 0, "forbid if mill=1;allow if mill=2;");
        x.day();
        Check.due("26 BARRED by SHORE 0", x.millOf(0, 5), 0);
        Check.due("26 BARRED by SHORE 1", x.millOf(1, 5), 0);
        Check.due("26 not BARRED", x.millOf(2, 5), 10);
        Check.due("26 ASHORE", x.millOf(3, 5), 0);
        Check.due("26 doesn't FLOAT", x.millOf(4, 5), 0);
        Check.rules(x, 0, 1, "");
        Check.rules(x, 1, 2, "");
        x.day();
        Check.due("26 no more BARRED", x.millOf(0, 5), 10);
        Check.due("26 still BARRED", x.millOf(1, 5), 0);
        x.day();
        Check.due("26 by RULES of the DAY", x.millOf(1, 5), 10);
        // one that breaks on this DAY grinds where it lies then, or not when it is GONE
        MillBoats y = river(40, 50);
        y.point(6, 0, 10);
        y.skiffs(0, 20);
        y.order(0, 500);
        laid(y, 1, 0);
        y.bed(2, 9);
        y.bed(14, 9);
        y.bed(26, 9);
        laid(y, 1, 71);
        y.point(5, 0, 40);
        y.day();
        Check.due("26 first CHAINS", y.millOf(0, 0), 13);
        Check.due("26 GRIST by where it lies then", y.millOf(0, 5), 10);
        Check.due("26 one that is GONE grinds nothing", y.millOf(1, 5), 0);
    }

    private static void tolls() {
        MillBoats x = river(40);
        x.point(6, 0, 50);
        laid(x, 2000, 0);
        x.skiffs(0, 20);
        x.skiffs(1, 20);
        x.order(0, 31);
        x.order(0, 18);
        x.order(0, 1);
        x.day();
        Check.due("26 a 16th, of each ORDER at once, rounded down", x.millOf(0, 6), 2);
        Check.due("26 of the first", x.orderOf(0, 3), 1);
        Check.due("26 of the second", x.orderOf(1, 3), 1);
        Check.due("26 of the third", x.orderOf(2, 3), 0);
        Check.rules(x, 0, 0, "toll 1 of 2 if 1=1;toll 2 of 5 if stretch=0;toll 3 of 3 if stretch=1;");
        Check.rules(x, 1, 0, "toll 1 of 3 if 1=2;");
        x.dress(0);
        x.order(0, 14);
        x.order(1, 16);
        x.day();
        x.day();
        Check.due("26 by the last toll that holds", x.orderOf(3, 3), 5);
        Check.due("26 none holds", x.orderOf(4, 3), 1);
        Check.due("26 TOLLS of the MILL", x.millOf(0, 6), 8);
        Check.due("35 TOLLS", x.count(9), 8);
        // in two DAYS: each time by itself
        MillBoats y = river(40);
        y.point(6, 0, 10);
        laid(y, 2000, 0);
        y.skiffs(0, 20);
        y.order(0, 20);
        Check.rules(y, 0, 0, "toll 1 of 4 if 1=1;");
        y.day();
        y.day();
        Check.due("26 10 and then 9 SACKS", y.orderOf(0, 3), 4);
        Check.rules(y, 0, 2, "toll 0 of 4 if 1=1;");
        y.day();
        Check.due("26 a TOLL of nothing", y.orderOf(0, 3), 4);
        Check.due("26 the last one is ground", y.orderOf(0, 4), 2);
    }

    private static void tollScene() {
        MillBoats x = river(0, 0, 40);
        x.point(6, 0, 5);
        x.mill(2, 3, 2000);
        x.mill(3, 30, 2000);
        x.moor(1, 31);
        x.bed(31, 2);
        x.skiffs(0, 20);
        x.height(0, 9);
        x.order(0, 77);
        Check.rules(x, 0, 0, "toll 1 of 5 if sacks=77 and lane=2 and stretch=7 and height=9 and depth=7 and day=0 "
                + "and mill=1 and draught=3 and wheel=30;toll 2 of 5 if day=1 and sacks=77 and height=8;");
        x.day();
        Check.due("26 what a TOLL knows", x.millOf(1, 6), 1);
        x.height(1, 8);
        x.day();
        Check.due("26 sacks are all of that ORDER", x.millOf(1, 6), 2);
    }

    private static void millOf() {
        MillBoats x = river(40);
        Check.dueNoMill(x, 0, 0);
        x.point(6, 0, 33);
        x.mill(4, 5, 600);
        Check.dueNoMill(x, -1, 0);
        Check.dueNoMill(x, 1, 0);
        Check.dueNoMill(x, 0, -1);
        Check.dueNoMill(x, 0, 8);
        Check.dueNoMill(x, Integer.MAX_VALUE, 0);
        Check.dueNoMill(x, 0, Integer.MIN_VALUE);
        int[] first = {-1, 4, 5, 600, 0, 0, 0, 0};
        for (int what = 0; what < 8; what++) {
            Check.due("33 what " + what, x.millOf(0, what), first[what]);
        }
        x.moor(0, 3);
        x.skiffs(0, 20);
        x.order(0, 500);
        x.day();
        x.dress(0);
        x.day();
        x.day();
        int[] then = {3, 4, 5, 600, 6, 66, 4, 0};
        for (int what = 0; what < 8; what++) {
            Check.due("33 what " + what + " then", x.millOf(0, what), then[what]);
        }
        x.dress(0);
        Check.due("33 WORN when DRESSED", x.millOf(0, 4), 0);
        Check.due("33 SACKS stay", x.millOf(0, 5), 66);
        Check.due("33 DRESSED on this DAY", x.millOf(0, 7), 1);
        x.point(0, 0, 400);
        x.day();
        x.moor(0, 0);
        x.point(0, 0, 400);
        Check.due("33 no more DRESSED", x.millOf(0, 7), 0);
    }

    private static void orderOf() {
        MillBoats x = river(40);
        x.point(6, 0, 40);
        laid(x, 2000, 0);
        x.skiffs(1, 20);
        x.order(1, 45);
        Check.due("34 ORDER -1", x.orderOf(-1, 0), -1);
        Check.due("34 ORDER 1", x.orderOf(1, 0), -1);
        Check.due("34 what -1", x.orderOf(0, -1), -1);
        Check.due("34 what 5", x.orderOf(0, 5), -1);
        int[][] due = {{1, 45, 45, 0, -1}, {1, 45, 5, 2, -1}, {1, 45, 0, 2, 1}, {1, 45, 0, 2, 1}};
        for (int d = 0; d < 4; d++) {
            for (int what = 0; what < 5; what++) {
                Check.due("34 DAY " + d + " what " + what, x.orderOf(0, what), due[d][what]);
            }
            x.day();
        }
    }

    private static void count() {
        MillBoats x = river(40, 40);
        x.point(6, 0, 40);
        laid(x, 2000, 0);
        laid(x, 1, 23);
        laid(x, 1, -1);
        laid(x, 2000, 13);
        x.skiffs(0, 20);
        x.order(0, 50);
        x.order(1, 60);
        Check.rules(x, 0, 0, "");
        Check.rules(x, 0, 0, "");
        Check.rules(x, 1, 0, "");
        x.feed(0, 0, 0, 0, 0);
        x.end(17);
        x.day();
        int[] due = {4, 2, 1, 2, 17, 2, 1, 60, 50, 2, 2, 1};
        for (int what = 0; what < 12; what++) {
            Check.due("35 count(" + what + ")", x.count(what), due[what]);
        }
        Check.due("35 count(-1)", x.count(-1), -1);
        Check.due("35 count(12)", x.count(12), -1);
        Check.due("35 count(MAX)", x.count(Integer.MAX_VALUE), -1);
    }
}
