/** The boundaries that the document names for THE DAY AT HAND: CHAINS, EVENTS, GRIST (promises 24 to 27, 33 to 35). */
public final class DayEdgesTest {
    private DayEdgesTest() {
    }

    public static void main(String[] args) {
        breaksAboveItsChain();
        breaksByThatDay();
        driftsByThatDay();
        whoDoesNotBreak();
        lanesOfOneValue();
        lanesOfNoValue();
        deepEnough();
        agroundAndGone();
        caughtAtItsChain();
        hitWithoutFloating();
        pullWithWhichItBroke();
        hitAtTheEnd();
        sixInARow();
        itsTurnHasPassed();
        wholeAgain();
        eventsFillWithinADay();
        skiffsOfEachLane();
        rowsThatAreLeft();
        ordersOfEachSize();
        powerOfOne();
        powerByThatDay();
        powerAsTheDayBegins();
        turnOfEachDay();
        turnPassesOn();
        barredOrNot();
        rulesOfThatDay();
        tollBySixteen();
        tollLeastAndMost();
        tollOfTheOrdersShore();
        tollOfThatDay();
        sacksOnlyForATOLL();
        lastSackOfAnOrder();
        countsOfThoseGone();
        Check.finish();
    }

    /** TABLE of each LANE has one VALUE; TABLE 6 one POWER. */
    private static MillBoats river(int power, int... values) {
        MillBoats x = new MillBoats();
        for (int t = 0; t < values.length; t++) {
            x.point(t, 0, values[t]);
        }
        x.point(6, 0, power);
        return x;
    }

    /** A MILL of DRAUGHT 1 and WHEEL 20, whose PULL is twice FLOW, at a BERTH. */
    private static void laid(MillBoats x, int chain, int berth) {
        int m = x.mill(1, 20, chain);
        Check.due("6 laid", x.moor(m, berth), 0);
    }

    /** All EVENTS from k on: which, MILL, other, BERTH, of one DAY. */
    private static void events(MillBoats x, int k, int day, int[]... due) {
        for (int i = 0; i < due.length; i++) {
            Check.due("27 DAY of EVENT " + (k + i), x.event(k + i, 0), day);
            for (int what = 1; what < 5; what++) {
                Check.due("27 event(" + (k + i) + ", " + what + ")", x.event(k + i, what), due[i][what - 1]);
            }
        }
        Check.due("35 no more EVENTS", x.count(3), k + due.length);
    }

    private static int[] breaks(int mill, int berth) {
        return new int[] {1, mill, -1, berth};
    }

    private static int[] hit(int mill, int by, int berth) {
        return new int[] {2, mill, by, berth};
    }

    private static int[] caught(int mill, int by, int berth) {
        return new int[] {3, mill, by, berth};
    }

    private static int[] aground(int mill, int berth) {
        return new int[] {4, mill, -1, berth};
    }

    private static int[] gone(int mill) {
        return new int[] {5, mill, -1, -1};
    }

    /** "whose PULL is above its CHAIN BREAKS", with ICE and without. */
    private static void breaksAboveItsChain() {
        for (int ice = 0; ice < 2; ice++) {
            int pull = ice == 0 ? 200 : 400;
            for (int chain = pull - 1; chain <= pull + 1; chain++) {
                MillBoats x = river(0, 100);
                x.ice(0, ice == 1);
                laid(x, chain, 11);
                x.day();
                if (chain < pull) {
                    events(x, 0, 0, breaks(0, 11), gone(0));
                } else {
                    events(x, 0, 0);
                    Check.due("26 it lies on", x.millOf(0, 0), 11);
                }
            }
        }
        // the least and the most CHAIN
        MillBoats y = river(0, 1, 400);
        y.mill(1, 1, 1);
        y.mill(1, 90, 2000);
        y.moor(0, 11);
        y.moor(1, 23);
        y.day();
        // PULL of 1 and of 2200
        events(y, 0, 0, breaks(1, 23), gone(1));
    }

    /** "All by HEIGHT, ICE and RULES of that DAY as known on it." */
    private static void breaksByThatDay() {
        MillBoats x = new MillBoats();
        x.point(0, 5, 10);
        x.point(0, 6, 20);
        laid(x, 39, 11);
        x.height(1, 6);
        x.day();
        events(x, 0, 0);
        x.height(1, 5);
        x.day();
        events(x, 0, 0);
        x.height(1, 6);
        x.height(3, 6);
        x.height(2, 5);
        x.day();
        events(x, 0, 0);
        x.day();
        events(x, 0, 3, breaks(0, 11), gone(0));
        MillBoats y = new MillBoats();
        y.point(0, 0, 10);
        laid(y, 39, 11);
        y.ice(1, true);
        y.day();
        y.ice(1, false);
        y.day();
        y.ice(1, true);
        y.ice(3, true);
        y.day();
        events(y, 0, 0);
        y.day();
        events(y, 0, 3, breaks(0, 11), gone(0));
    }

    /** VALUE, DEPTH and PULL as it drifts "by HEIGHT .. of that DAY". */
    private static void driftsByThatDay() {
        // LANE 0 has more at HEIGHT 5, LANE 1 at HEIGHT 9; BEDS of 8 leave a DEPTH of 1 at HEIGHT 9
        MillBoats x = new MillBoats();
        x.point(0, 5, 100);
        x.point(0, 9, 60);
        x.point(1, 5, 50);
        x.point(1, 9, 80);
        x.mill(1, 20, 1);
        x.moor(0, 10);
        // HIT at HEIGHT 9 by 120 with a PULL of 160 of its own; at HEIGHT 5 it would have 100
        laid(x, 279, 23);
        for (int lane = 0; lane < 6; lane++) {
            x.bed(lane * 12 + 11, 8);
        }
        x.height(0, 9);
        x.day();
        events(x, 0, 0, breaks(0, 10), hit(1, 0, 23), gone(1), gone(0));
        MillBoats y = new MillBoats();
        y.point(0, 5, 100);
        y.point(0, 9, 60);
        laid(y, 1, 9);
        y.mill(1, 20, 240);
        y.moor(1, 10);
        y.height(0, 9);
        y.day();
        // (60 - 9) * 2 and 120 are 222, at HEIGHT 5 they would be 290
        events(y, 0, 0, breaks(0, 9), caught(0, 1, 9));
        MillBoats z = new MillBoats();
        z.point(0, 0, 100);
        z.mill(3, 20, 1);
        z.moor(0, 10);
        z.bed(11, 3);
        z.bed(23, 3);
        z.height(0, 5);
        z.height(0, 4);
        z.day();
        // DEPTH 1 in STRETCH 11 at HEIGHT 4, 2 at HEIGHT 5
        events(z, 0, 0, breaks(0, 10), aground(0, 10));
        z.height(1, 6);
        z.day();
        Check.due("27 GONE at HEIGHT 6", z.event(3, 1), 5);
    }

    /** "one that lies at a BERTH": not one ASHORE, GONE, or that doesn't FLOAT. */
    private static void whoDoesNotBreak() {
        MillBoats x = river(0, 400);
        x.mill(1, 90, 1);
        x.mill(6, 90, 1);
        x.moor(1, 0);
        laid(x, 1, 11);
        x.day();
        events(x, 0, 0, breaks(2, 11), gone(2));
        x.day();
        events(x, 0, 0, breaks(2, 11), gone(2));
        Check.due("26 ASHORE", x.millOf(0, 0), -1);
        Check.due("26 at its BERTH", x.millOf(1, 0), 0);
        Check.due("26 GONE", x.millOf(2, 0), -2);
        new MillBoats().day();
        Check.due("26 without MILLS", new MillBoats().day(), 1);
    }

    /** Where a MILL that breaks at STRETCH 10 comes by; the BERTHS of STRETCH 11 each have a MILL that is HIT. */
    private static int comesTo(int lane, int... values) {
        MillBoats x = river(0, values);
        laid(x, 1, lane * 12 + 10);
        for (int to = Math.max(0, lane - 2); to <= Math.min(5, lane + 2); to++) {
            laid(x, 1, to * 12 + 11);
        }
        x.day();
        for (int k = 1; k < x.count(3); k++) {
            if (x.event(k, 1) == 2 && x.event(k, 3) == 0) {
                return x.event(k, 4) / 12;
            }
        }
        return -1;
    }

    /** "to that of the LANES as it is, one less, one more (in this order) of the greatest VALUE (the first of these)". */
    private static void lanesOfOneValue() {
        for (int lane = 0; lane < 6; lane++) {
            Check.due("26 all of one VALUE from LANE " + lane, comesTo(lane, 9, 9, 9, 9, 9, 9), lane);
        }
        for (int lane = 1; lane < 5; lane++) {
            int[] v = {9, 9, 9, 9, 9, 9};
            v[lane] = 8;
            Check.due("26 one less ahead of one more", comesTo(lane, v), lane - 1);
            v[lane + 1] = 10;
            Check.due("26 one more has more", comesTo(lane, v), lane + 1);
            v[lane - 1] = 10;
            Check.due("26 both have as much", comesTo(lane, v), lane - 1);
            v[lane] = 10;
            Check.due("26 its own has as much", comesTo(lane, v), lane);
        }
        Check.due("26 LANE 0 has none less", comesTo(0, 8, 9, 400, 9, 9, 400), 1);
        Check.due("26 LANE 0 stays", comesTo(0, 9, 9, 400, 9, 9, 400), 0);
        Check.due("26 LANE 5 has none more", comesTo(5, 400, 9, 9, 400, 9, 8), 4);
        Check.due("26 LANE 5 stays", comesTo(5, 400, 9, 9, 400, 9, 9), 5);
    }

    /** A VALUE of 0 is one to go to. */
    private static void lanesOfNoValue() {
        MillBoats x = river(0, 100, 0, 0);
        laid(x, 150, 0);
        laid(x, 199, 13);
        for (int s = 1; s < 12; s++) {
            x.bed(s, 5);
        }
        x.day();
        events(x, 0, 0, breaks(0, 0), hit(1, 0, 13), gone(1), gone(0));
    }

    /** "of which DEPTH is its DRAUGHT or more". */
    private static void deepEnough() {
        for (int bed = 1; bed <= 3; bed++) {
            MillBoats x = river(0, 100, 50, 50);
            x.mill(3, 20, 1);
            x.moor(0, 10);
            x.bed(11, bed);
            x.bed(23, 3);
            x.day();
            if (bed <= 2) {
                events(x, 0, 0, breaks(0, 10), gone(0));
            } else {
                events(x, 0, 0, breaks(0, 10), aground(0, 10));
            }
        }
        // its own LANE isn't deep enough: the next by VALUE is
        MillBoats y = river(0, 90, 100, 80);
        y.mill(3, 20, 1);
        y.moor(0, 12 + 10);
        y.bed(12 + 11, 3);
        y.bed(11, 3);
        y.mill(1, 20, 1);
        y.moor(1, 24 + 11);
        y.day();
        events(y, 0, 0, breaks(0, 22), hit(1, 0, 35), gone(1), gone(0));
    }

    /** "from a BERTH of STRETCH 11 it is GONE", "there is none: it lies AGROUND where it is": at each LANE. */
    private static void agroundAndGone() {
        for (int lane = 0; lane < 6; lane++) {
            MillBoats x = river(0, 100, 100, 100, 100, 100, 100);
            laid(x, 1, lane * 12 + 11);
            x.bed(lane * 12 + 11, 4);
            x.day();
            events(x, 0, 0, breaks(0, lane * 12 + 11), gone(0));
            Check.due("26 GONE", x.millOf(0, 0), -2);
            MillBoats y = river(0, 100, 100, 100, 100, 100, 100);
            laid(y, 1, lane * 12 + 9);
            for (int to = Math.max(0, lane - 1); to <= Math.min(5, lane + 1); to++) {
                y.bed(to * 12 + 11, 5);
            }
            y.day();
            events(y, 0, 0, breaks(0, lane * 12 + 9), aground(0, lane * 12 + 10));
            Check.due("26 where it is", y.millOf(0, 0), lane * 12 + 10);
        }
    }

    /** "if that one's PULL and the PULL .. are together above that one's CHAIN .. else .. CAUGHT where it is". */
    private static void caughtAtItsChain() {
        for (int ice = 0; ice < 2; ice++) {
            // both in LANES of 100: PULL 200 and, behind it in its SHADOW, (100 - 15) * 2
            int both = (200 + 170) * (ice + 1);
            for (int chain = both - 1; chain <= both + 1; chain++) {
                MillBoats x = river(0, 100);
                x.ice(0, ice == 1);
                laid(x, 1, 0);
                laid(x, chain, 1);
                x.day();
                if (chain < both) {
                    events(x, 0, 0, breaks(0, 0), hit(1, 0, 1), gone(1), gone(0));
                } else {
                    events(x, 0, 0, breaks(0, 0), caught(0, 1, 0));
                }
            }
        }
    }

    /** One that doesn't FLOAT has a PULL of 0, and is HIT by that of the other alone. */
    private static void hitWithoutFloating() {
        for (int chain = 199; chain <= 200; chain++) {
            MillBoats x = river(0, 100);
            laid(x, 1, 0);
            x.mill(6, 90, chain);
            x.moor(1, 2);
            x.day();
            if (chain == 199) {
                events(x, 0, 0, breaks(0, 0), hit(1, 0, 2), aground(1, 2), caught(0, 1, 1));
            } else {
                events(x, 0, 0, breaks(0, 0), caught(0, 1, 1));
            }
            Check.due("26 it lies where it did", x.millOf(1, 0), 2);
            Check.due("26 the other one ahead of it", x.millOf(0, 0), 1);
        }
    }

    /** "the PULL with which this one broke", not what it would have where it is. */
    private static void pullWithWhichItBroke() {
        for (int chain = 539; chain <= 540; chain++) {
            // 0 breaks with 200, comes to LANE 1, where it would have 400; 1 there has (200 - 30) * 2 = 340
            MillBoats x = river(0, 100, 200);
            laid(x, 1, 0);
            laid(x, chain, 14);
            x.day();
            if (chain == 539) {
                events(x, 0, 0, breaks(0, 0), hit(1, 0, 14), gone(1), gone(0));
            } else {
                events(x, 0, 0, breaks(0, 0), caught(0, 1, 13));
            }
        }
        // "(with its own PULL)": 1, HIT with 340, comes to 15; 2 at 16 has (200 - 30 - 10) * 2 = 320 in two SHADOWS
        int[] chains = {659, 660};
        for (int chain : chains) {
            MillBoats x = river(0, 100, 200);
            laid(x, 1, 0);
            laid(x, 539, 14);
            laid(x, chain, 16);
            x.day();
            if (chain == 659) {
                events(x, 0, 0, breaks(0, 0), hit(1, 0, 14), hit(2, 1, 16), gone(2), gone(1), gone(0));
            } else {
                // 1 is CAUGHT at 15; 0 goes on to 14 and comes to 1, of PULL (200 - 30) * 2, once more
                events(x, 0, 0, breaks(0, 0), hit(1, 0, 14), caught(1, 2, 15), hit(1, 0, 15), caught(1, 2, 15),
                        caught(0, 1, 14));
            }
        }
    }

    /** One that is HIT at STRETCH 11 is GONE, and its BERTH free. */
    private static void hitAtTheEnd() {
        MillBoats x = river(0, 100);
        laid(x, 1, 10);
        laid(x, 1, 11);
        x.day();
        events(x, 0, 0, breaks(0, 10), hit(1, 0, 11), gone(1), gone(0));
        MillBoats y = river(0, 100);
        laid(y, 2000, 11);
        laid(y, 1, 10);
        y.day();
        events(y, 0, 0, breaks(1, 10), caught(1, 0, 10));
    }

    /** Six that lie one behind the other: each is HIT by the one ahead of it. */
    private static void sixInARow() {
        MillBoats x = river(0, 400);
        for (int m = 0; m < 6; m++) {
            x.mill(1, 1, 1);
            x.moor(m, m);
        }
        x.day();
        events(x, 0, 0, breaks(0, 0), hit(1, 0, 1), hit(2, 1, 2), hit(3, 2, 3), hit(4, 3, 4), hit(5, 4, 5),
                gone(5), gone(4), gone(3), gone(2), gone(1), gone(0));
        Check.due("35 all six GONE", x.count(11), 6);
        MillBoats y = river(0, 400);
        for (int m = 0; m < 6; m++) {
            y.mill(1, 1, m == 0 ? 2000 : 1);
            y.moor(m, 5 - m);
        }
        y.day();
        // 1 is right ahead of 0, which holds all
        events(y, 0, 0, breaks(1, 4), caught(1, 0, 4), breaks(2, 3), hit(1, 2, 4), caught(1, 0, 4), caught(2, 1, 3),
                breaks(3, 2), hit(2, 3, 3), hit(1, 2, 4), caught(1, 0, 4), caught(2, 1, 3), caught(3, 2, 2),
                breaks(4, 1), hit(3, 4, 2), hit(2, 3, 3), hit(1, 2, 4), caught(1, 0, 4), caught(2, 1, 3),
                caught(3, 2, 2), caught(4, 3, 1),
                breaks(5, 0), hit(4, 5, 1), hit(3, 4, 2), hit(2, 3, 3), hit(1, 2, 4), caught(1, 0, 4),
                caught(2, 1, 3), caught(3, 2, 2), caught(4, 3, 1), caught(5, 4, 0));
    }

    /** "MILL by MILL": one whose turn has passed doesn't break any more on this DAY, though it was HIT. */
    private static void itsTurnHasPassed() {
        MillBoats x = river(0, 100, 400);
        x.mill(1, 20, 210);
        x.moor(0, 2);
        laid(x, 1, 0);
        int[] shallow = {13, 14, 3, 4, 16, 28};
        for (int b : shallow) {
            x.bed(b, 5);
        }
        x.day();
        // 0 has 180 of 210 at its turn and 170 when it is HIT; it comes to LANE 1, where it has 800
        events(x, 0, 0, breaks(1, 0), hit(0, 1, 2), aground(0, 15), hit(0, 1, 15), aground(0, 15), caught(1, 0, 2));
        x.day();
        Check.due("27 on the next DAY it does", x.event(6, 1), 1);
        Check.due("27 MILL 0", x.event(6, 2), 0);
    }

    /** "A chain is whole again as it lies." */
    private static void wholeAgain() {
        MillBoats x = river(0, 100, 50);
        x.mill(1, 20, 150);
        x.moor(0, 0);
        x.bed(1, 5);
        x.bed(2, 5);
        x.bed(14, 5);
        x.bed(26, 5);
        x.day();
        events(x, 0, 0, breaks(0, 0), aground(0, 13));
        x.day();
        Check.due("35 a PULL of 100 doesn't break it there", x.count(3), 2);
        Check.due("33 its CHAIN is what it was", x.millOf(0, 3), 150);
        x.point(1, 0, 76);
        x.day();
        Check.due("35 a PULL of 152 does", x.count(3), 4);
        Check.due("27 AGROUND again", x.event(3, 1), 4);
    }

    /** "EVENTS are told as they come, 300 at most (later ones aren't)": also those of one DAY. */
    private static void eventsFillWithinADay() {
        MillBoats x = river(0, 100, 0, 0, 0, 0, 100);
        laid(x, 1, 0);
        x.bed(1, 5);
        x.bed(13, 5);
        for (int d = 0; d < 148; d++) {
            x.day();
        }
        Check.due("35 296 EVENTS", x.count(3), 296);
        laid(x, 1, 70);
        laid(x, 1, 71);
        x.day();
        Check.due("35 300 EVENTS", x.count(3), 300);
        int[][] due = {{1, 0, -1, 0}, {4, 0, -1, 0}, {1, 1, -1, 70}, {2, 2, 1, 71}};
        for (int i = 0; i < 4; i++) {
            Check.due("27 DAY", x.event(296 + i, 0), 148);
            for (int what = 1; what < 5; what++) {
                Check.due("27 EVENT " + (296 + i), x.event(296 + i, what), due[i][what - 1]);
            }
        }
        Check.due("27 no EVENT 300", x.event(300, 0), -1);
        Check.due("33 what isn't told comes about", x.millOf(1, 0), -2);
        Check.due("33 for both", x.millOf(2, 0), -2);
        x.day();
        Check.due("35 still 300", x.count(3), 300);
    }

    /** "30 ROWS each a DAY", "a SACK costs 1 ROW and 1 for each LANE by which the MILL's is off the SHORE's own". */
    private static void skiffsOfEachLane() {
        int[] of30 = {30, 15, 10, 7, 6, 5};
        int[] of600 = {400, 300, 200, 150, 120, 100};
        for (int lane = 0; lane < 6; lane++) {
            for (int shore = 0; shore < 2; shore++) {
                int off = shore == 0 ? lane : 5 - lane;
                MillBoats x = river(400);
                laid(x, 2000, lane * 12 + 11);
                x.order(shore, 500);
                x.day();
                Check.due("26 0 SKIFFS at first", x.count(8), 0);
                Check.due("24 one SKIFF of the other SHORE", x.skiffs(1 - shore, 20), true);
                x.day();
                Check.due("26 the other SHORE's SKIFFS bring none", x.count(8), 0);
                Check.due("24 one SKIFF", x.skiffs(shore, 1), true);
                x.day();
                Check.due("26 30 ROWS, LANE " + lane + ", SHORE " + shore, x.count(8), of30[off]);
                x.dress(0);
                x.day();
                x.order(shore, 500);
                x.skiffs(shore, 20);
                x.day();
                Check.due("26 600 ROWS, LANE " + lane + ", SHORE " + shore, x.count(8) - of30[off], of600[off]);
                x.dress(0);
                x.day();
                int before = x.count(8);
                x.skiffs(shore, 0);
                x.day();
                Check.due("26 0 SKIFFS", x.count(8), before);
            }
        }
    }

    /** "as that SHORE's ROWS that are left bring": what one leaves another one has, of each SHORE by itself. */
    private static void rowsThatAreLeft() {
        MillBoats x = river(100);
        laid(x, 2000, 36);
        laid(x, 2000, 12);
        laid(x, 2000, 0);
        x.skiffs(0, 1);
        x.order(0, 500);
        x.day();
        // LANE 3: 7 SACKS of 4 ROWS, 2 are left: 1 SACK in LANE 1, and none is left for LANE 0
        Check.due("26 7 by MILL 0", x.millOf(0, 5), 7);
        Check.due("26 1 by MILL 1", x.millOf(1, 5), 1);
        Check.due("26 0 by MILL 2", x.millOf(2, 5), 0);
        MillBoats y = river(100);
        laid(y, 2000, 24);
        laid(y, 2000, 48);
        y.skiffs(0, 1);
        y.skiffs(1, 1);
        y.order(0, 4);
        y.order(0, 3);
        y.order(1, 4);
        y.order(0, 500);
        y.order(1, 500);
        y.day();
        // MILL 0: 4 + 3 of 3 ROWS each, 4 of 4 ROWS, 3 of 3 ROWS, 3 of 4 ROWS (16 and 2 ROWS used up)
        int[] left = {0, 0, 0, 497, 496};
        for (int o = 0; o < 5; o++) {
            Check.due("26 left of ORDER " + o, y.orderOf(o, 2), left[o]);
        }
        Check.due("26 by MILL 0", y.millOf(0, 5), 4 + 3 + 4 + 3 + 3);
        // SHORE 1 has 30 - 28 = 2 ROWS left: 1 SACK of 2 ROWS in LANE 4
        Check.due("26 by MILL 1", y.millOf(1, 5), 1);
    }

    /** "ORDERS, at most 60, .. SACKS (1 to 500)". */
    private static void ordersOfEachSize() {
        MillBoats x = river(400);
        laid(x, 2000, 0);
        x.skiffs(0, 20);
        Check.due("25 1 SACK", x.order(0, 1), 0);
        Check.due("25 500 SACKS", x.order(0, 500), 1);
        Check.due("25 0 SACKS", x.order(0, 0), -1);
        Check.due("25 501 SACKS", x.order(0, 501), -1);
        Check.due("25 the next number", x.order(1, 2), 2);
        x.day();
        Check.due("34 1 SACK is ground", x.orderOf(0, 2), 0);
        Check.due("34 399 of 500", x.orderOf(1, 2), 101);
        for (int o = 3; o < 60; o++) {
            Check.due("25 ORDER " + o, x.order(1, 1), o);
        }
        Check.due("25 those that are ground are counted too", x.order(1, 1), -1);
        Check.due("35 ORDERS", x.count(1), 60);
        Check.due("34 the last", x.orderOf(59, 1), 1);
        Check.due("34 none behind it", x.orderOf(60, 1), -1);
    }

    /** "grinds up to its POWER": of 1, and of 0. */
    private static void powerOfOne() {
        for (int power = 0; power <= 3; power++) {
            MillBoats x = river(power);
            laid(x, 2000, 0);
            x.skiffs(0, 20);
            x.order(0, 1);
            x.order(0, 1);
            x.order(0, 9);
            x.day();
            int[] left = {power >= 1 ? 0 : 1, power >= 2 ? 0 : 1, power == 3 ? 8 : 9};
            for (int o = 0; o < 3; o++) {
                Check.due("26 POWER " + power + ", left of ORDER " + o, x.orderOf(o, 2), left[o]);
            }
        }
    }

    /** GRIST "by HEIGHT .. of that DAY as known on it": FLOW MET and DEPTH. */
    private static void powerByThatDay() {
        MillBoats x = new MillBoats();
        x.point(0, 0, 0);
        x.point(0, 20, 20);
        x.point(6, 0, 0);
        x.point(6, 20, 20);
        x.mill(4, 20, 2000);
        x.moor(0, 0);
        x.skiffs(0, 20);
        x.order(0, 500);
        x.height(0, 4);
        x.height(1, 3);
        x.height(2, 20);
        x.day();
        Check.due("26 HEIGHT 4, DEPTH is DRAUGHT", x.millOf(0, 5), 4);
        x.day();
        Check.due("26 HEIGHT 3, it doesn't FLOAT", x.millOf(0, 5), 4);
        x.height(2, 7);
        x.day();
        Check.due("26 HEIGHT 7 as known on that DAY", x.millOf(0, 5), 4 + 7);
        x.dress(0);
        x.day();
        x.height(4, 20);
        x.day();
        Check.due("26 HEIGHT 20", x.millOf(0, 5), 4 + 7 + 20);
        x.height(4, 1);
        x.dress(0);
        x.day();
        x.height(7, 9);
        x.day();
        Check.due("26 HEIGHT 1 of DAY 4, told behind it, on DAY 6", x.millOf(0, 5), 4 + 7 + 20);
        x.day();
        Check.due("26 HEIGHT 9 of DAY 7", x.millOf(0, 5), 4 + 7 + 20 + 9);
    }

    /** "(as the DAY begins)": what a MILL grinds on a DAY takes no POWER on that DAY. */
    private static void powerAsTheDayBegins() {
        MillBoats x = river(100);
        laid(x, 2000, 0);
        x.skiffs(0, 20);
        for (int o = 0; o < 4; o++) {
            x.order(0, 30);
        }
        x.day();
        Check.due("26 all of its POWER", x.millOf(0, 5), 100);
        Check.due("33 WORN then", x.millOf(0, 4), 20);
        x.order(0, 500);
        x.day();
        Check.due("26 less on the next DAY", x.millOf(0, 5), 180);
        Check.due("33 WORN then", x.millOf(0, 4), 36);
        x.dress(0);
        x.day();
        Check.due("26 nothing as it is DRESSED", x.millOf(0, 5), 180);
        x.day();
        Check.due("26 all of its POWER again", x.millOf(0, 5), 280);
    }

    /** "the one whose number is the DAY's rest by how many there are first". */
    private static void turnOfEachDay() {
        for (int mills = 1; mills <= 6; mills++) {
            MillBoats x = river(2);
            for (int m = 0; m < mills; m++) {
                laid(x, 2000, m * 12);
            }
            x.skiffs(0, 20);
            int[] ground = new int[mills];
            for (int d = 0; d < 14; d++) {
                x.order(0, 1);
                x.day();
                // POWER 2 less a few of a hundred is 1 still
                ground[d % mills]++;
                for (int m = 0; m < mills; m++) {
                    Check.due("26 " + mills + " MILLS, DAY " + d + ", MILL " + m, x.millOf(m, 5), ground[m]);
                }
            }
        }
    }

    /** "then on by numbers, behind the last one 0": past those that don't grind. */
    private static void turnPassesOn() {
        MillBoats x = river(1);
        for (int m = 0; m < 6; m++) {
            laid(x, 2000, m * 12);
        }
        x.skiffs(0, 20);
        Check.rules(x, 0, 0, "forbid if mill=1;");
        x.bed(24, 5);
        x.moor(3, -1);
        int[] due = {0, 4, 4, 4, 4, 5, 0};
        int[] ground = new int[6];
        for (int d = 0; d < 7; d++) {
            x.order(0, 1);
            x.day();
            // 1 is BARRED, 2 doesn't FLOAT, 3 is ASHORE
            ground[due[d]]++;
            for (int m = 0; m < 6; m++) {
                Check.due("26 DAY " + d + ", MILL " + m, x.millOf(m, 5), ground[m]);
            }
        }
        x.order(0, 1);
        x.dress(4);
        x.dress(5);
        x.day();
        Check.due("26 from 1 on past 4 and 5, behind the last one 0", x.millOf(0, 5), ground[0] + 1);
    }

    /** "is not BARRED by a SHORE": by one that has a say there. */
    private static void barredOrNot() {
        for (int lane = 0; lane < 6; lane++) {
            for (int shore = 0; shore < 2; shore++) {
                MillBoats x = river(9);
                laid(x, 2000, lane * 12);
                x.skiffs(0, 20);
                x.order(0, 500);
                Check.rules(x, shore, 0, "forbid if 1=1;");
                Check.rules(x, 1 - shore, 0, "allow if 1=1;");
                boolean say = shore == 0 ? lane <= 3 : lane >= 2;
                x.day();
                Check.due("26 LANE " + lane + ", a forbid of SHORE " + shore + ", an allow of the other",
                        x.millOf(0, 5), say ? 0 : 9);
            }
        }
    }

    /** RULES "of that DAY as known on it". */
    private static void rulesOfThatDay() {
        MillBoats x = river(9);
        laid(x, 2000, 0);
        x.skiffs(0, 20);
        x.order(0, 500);
        Check.rules(x, 0, 1, "forbid if 1=1;");
        x.day();
        Check.due("26 not yet from DAY 1 on", x.millOf(0, 5), 9);
        x.day();
        Check.due("26 from DAY 1 on", x.millOf(0, 5), 9);
        x.day();
        Check.due("26 further on", x.millOf(0, 5), 9);
        Check.rules(x, 0, 3, "");
        x.day();
        Check.due("26 told on DAY 3 from DAY 3 on", x.millOf(0, 5), 9 + 8);
        Check.rules(x, 0, 0, "forbid if 1=1;");
        x.day();
        Check.due("26 one from DAY 0 on is behind that of DAY 3", x.millOf(0, 5), 9 + 8 + 8);
        Check.rules(x, 0, 5, "forbid if height=7;");
        x.height(5, 7);
        x.day();
        Check.due("26 HEIGHT of that DAY", x.millOf(0, 5), 9 + 8 + 8);
        x.height(6, 5);
        x.day();
        Check.due("26 HEIGHT of the next", x.millOf(0, 5), 9 + 8 + 8 + 8);
    }

    /** "without one by 16, rounded down". */
    private static void tollBySixteen() {
        int[] sacks = {1, 15, 16, 17, 31, 32, 399, 400};
        int[] due = {0, 0, 1, 1, 1, 2, 24, 25};
        for (int i = 0; i < sacks.length; i++) {
            MillBoats x = river(400);
            laid(x, 2000, 0);
            x.skiffs(0, 20);
            x.order(0, sacks[i]);
            x.day();
            Check.due("33 TOLLS of " + sacks[i], x.millOf(0, 6), due[i]);
            Check.due("34 TOLLS of " + sacks[i], x.orderOf(0, 3), due[i]);
            Check.due("35 TOLLS of " + sacks[i], x.count(9), due[i]);
        }
    }

    /** "SACKS times the first N by the second, rounded down". */
    private static void tollLeastAndMost() {
        String[] toll = {"1 of 1", "0 of 1", "9999 of 9999", "9998 of 9999", "1 of 9999", "0001 of 400", "1 of 401",
            "399 of 400", "2 of 3"};
        int[] due = {400, 0, 400, 399, 0, 1, 0, 399, 266};
        for (int i = 0; i < toll.length; i++) {
            MillBoats x = river(400);
            laid(x, 2000, 0);
            x.skiffs(0, 20);
            x.order(0, 500);
            Check.due("18 toll " + toll[i], Check.rules(x, 0, 0, "toll " + toll[i] + " if 1=1;"), 1);
            x.day();
            Check.due("33 toll " + toll[i] + " of 400 SACKS", x.millOf(0, 6), due[i]);
        }
    }

    /** "by the last toll of the ORDER's SHORE whose COND holds", wherever the MILL lies. */
    private static void tollOfTheOrdersShore() {
        MillBoats x = river(40);
        laid(x, 2000, 0);
        laid(x, 2000, 60);
        x.skiffs(0, 20);
        x.skiffs(1, 20);
        x.order(0, 30);
        x.order(1, 30);
        Check.rules(x, 0, 0, "toll 1 of 2 if 1=1;toll 1 of 3 if lane=5;");
        Check.rules(x, 1, 0, "toll 1 of 5 if 1=1;toll 1 of 1 if 1=2;way 1 if 1=1;");
        x.day();
        // MILL 0: 30 of ORDER 0 by 2, 10 of ORDER 1 by 5; MILL 1: 20 of ORDER 1 by 5
        Check.due("34 ORDER of SHORE 0", x.orderOf(0, 3), 15);
        Check.due("34 ORDER of SHORE 1", x.orderOf(1, 3), 2 + 4);
        Check.due("33 MILL 0", x.millOf(0, 6), 17);
        Check.due("33 MILL 1", x.millOf(1, 6), 4);
        MillBoats y = river(40);
        laid(y, 2000, 60);
        y.skiffs(0, 20);
        y.order(0, 30);
        Check.rules(y, 0, 0, "toll 1 of 2 if 1=1;toll 1 of 3 if lane=5;");
        y.day();
        Check.due("34 the last that holds, where SHORE 0 has no say", y.orderOf(0, 3), 10);
    }

    /** TOLL by the RULES in force on that DAY. */
    private static void tollOfThatDay() {
        MillBoats x = river(40);
        laid(x, 2000, 0);
        x.skiffs(0, 20);
        Check.rules(x, 0, 1, "toll 1 of 2 if 1=1;");
        Check.rules(x, 0, 2, "toll 1 of 4 if day=2;");
        int[] due = {1, 10, 5, 1};
        int sum = 0;
        for (int d = 0; d < 4; d++) {
            x.order(0, 20);
            x.day();
            sum += due[d];
            Check.due("33 TOLLS on DAY " + d, x.millOf(0, 6), sum);
        }
        Check.rules(x, 0, 3, "toll 1 of 1 if 1=1;");
        x.order(0, 20);
        x.day();
        Check.due("33 TOLLS by what was told on DAY 4 from DAY 3 on", x.millOf(0, 6), sum + 20);
    }

    /** "sacks (0 but for a TOLL)": also for a MILL behind one that gave a TOLL, and for a let. */
    private static void sacksOnlyForATOLL() {
        MillBoats x = river(10);
        laid(x, 2000, 0);
        laid(x, 2000, 12);
        x.skiffs(0, 20);
        x.order(0, 33);
        Check.rules(x, 0, 0, "let s=sacks*2;forbid if sacks>0;forbid if s>0;toll 1 of 2 if s=66;toll 1 of 5 if s=20;");
        x.day();
        Check.due("33 MILL 0", x.millOf(0, 5), 10);
        Check.due("33 MILL 1 behind it", x.millOf(1, 5), 10);
        Check.due("34 sacks: all of that ORDER", x.orderOf(0, 3), 5 + 5);
        Check.due("20 sacks are 0", x.barred(0, 0, 0, 0), 0);
        Check.due("21 sacks are 0", x.word(0, 1, 12, 0, 0), -1);
        Check.due("22 sacks are 0", x.way(0, 0, 0), 0);
        x.day();
        Check.due("34 sacks: also of the rest of it", x.orderOf(0, 3), 5 + 5 + 4 + 2);
        Check.due("34 none is left", x.orderOf(0, 2), 0);
    }

    /** "4 the DAY on which the last one was ground (NONE: some are left)". */
    private static void lastSackOfAnOrder() {
        MillBoats x = river(5);
        laid(x, 2000, 0);
        x.skiffs(0, 20);
        x.order(0, 5);
        x.order(0, 6);
        x.order(0, 1);
        x.day();
        Check.due("34 on DAY 0", x.orderOf(0, 4), 0);
        Check.due("34 some are left", x.orderOf(1, 4), -1);
        x.day();
        // WORN by 1: 4 of 6
        Check.due("34 two are left", x.orderOf(1, 2), 2);
        Check.due("34 some are left still", x.orderOf(1, 4), -1);
        x.day();
        Check.due("34 on DAY 2", x.orderOf(1, 4), 2);
        Check.due("34 the third too", x.orderOf(2, 4), 2);
        x.day();
        Check.due("34 it stays", x.orderOf(0, 4), 0);
        Check.due("34 it stays", x.orderOf(1, 4), 2);
    }

    /** SACKS and TOLLS of one that is GONE are counted on. */
    private static void countsOfThoseGone() {
        MillBoats x = river(32, 100);
        laid(x, 200, 0);
        laid(x, 2000, 12);
        x.skiffs(0, 20);
        x.order(0, 70);
        x.day();
        x.point(0, 0, 101);
        x.day();
        int[] due = {2, 1, 2, 2, 0, 0, 0, 0, 70, 4, 1, 1};
        for (int what = 0; what < 12; what++) {
            Check.due("35 count(" + what + ")", x.count(what), due[what]);
        }
        Check.due("33 GONE", x.millOf(0, 0), -2);
        Check.due("33 its SACKS", x.millOf(0, 5), 32);
        Check.due("33 its TOLLS", x.millOf(0, 6), 2);
        Check.due("33 its WORN", x.millOf(0, 4), 6);
        Check.due("33 its CHAIN", x.millOf(0, 3), 200);
        Check.due("33 the other one's SACKS", x.millOf(1, 5), 38);
    }
}
