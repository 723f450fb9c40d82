/** The boundaries that the document names for THE RIVER, TABLES and MILLS (promises 1 to 11), sentence by sentence. */
public final class RiverEdgesTest {
    private static final int MIN = Integer.MIN_VALUE;
    private static final int MAX = Integer.MAX_VALUE;

    private RiverEdgesTest() {
    }

    public static void main(String[] args) {
        berths();
        bedOfEachBerth();
        eightPointsOfEachTable();
        aheadOfAllAndBehindAll();
        straightBetweenTwo();
        leastAndMostOfAMill();
        sixMills();
        berthsToMoorAt();
        dressedOnADay();
        shadowsByStretches();
        shadowsOfThoseThatLieNowhere();
        shadowsRoundedDown();
        flowIsZeroAtLeast();
        floats();
        powerRoundedDown();
        wornSinceDressed();
        pullRoundedDown();
        heightsOfAllFour();
        losses();
        Check.finish();
    }

    /** "BERTHS: 12 times the LANE and the STRETCH (0 to 71)": what RULES say LANE and STRETCH are. */
    private static void berths() {
        int[][] edges = {{0, 0, 0}, {11, 0, 11}, {12, 1, 0}, {23, 1, 11}, {24, 2, 0}, {59, 4, 11}, {60, 5, 0},
            {71, 5, 11}};
        for (int[] e : edges) {
            MillBoats x = new MillBoats();
            x.mill(1, 1, 1);
            Check.rules(x, 0, 0, "forbid if lane=" + e[1] + " and stretch=" + e[2] + ";");
            for (int b = 0; b < 72; b++) {
                Check.due("BERTH " + b + " is LANE " + e[1] + ", STRETCH " + e[2], x.word(0, 0, b, 0, 0),
                        b == e[0] ? 0 : -1);
            }
        }
    }

    /** "each with a BED (0 to 20; 0 at first)" and "DEPTH: HEIGHT less BED". */
    private static void bedOfEachBerth() {
        MillBoats x = new MillBoats();
        x.point(6, 0, 9);
        x.mill(1, 1, 1);
        for (int b = 0; b < 72; b++) {
            x.moor(0, b);
            Check.due("2 BED " + b + " is 0 at first", x.power(0, 1), 9);
            Check.due("2 bed(" + b + ")", x.bed(b, b % 20), true);
        }
        for (int b = 0; b < 72; b++) {
            x.moor(0, b);
            Check.due("2 DEPTH 0 at BERTH " + b, x.power(0, b % 20), 0);
            Check.due("2 DEPTH 1 at BERTH " + b, x.power(0, b % 20 + 1), 9);
        }
        Check.due("2 a BED of 20", x.bed(71, 20), true);
        Check.due("2 never deep", x.power(0, 20), 0);
        Check.due("2 a BED of 0 again", x.bed(71, 0), true);
        Check.due("2 deep again", x.power(0, 1), 9);
    }

    /** "A TABLE has POINTS, 8 at most, of unlike x (0 to 400) with y (0 to 400)", "TABLES: 0 to 5 .. 6". */
    private static void eightPointsOfEachTable() {
        MillBoats x = new MillBoats();
        for (int t = 0; t < 7; t++) {
            Check.due("3 x 0, y 400", x.point(t, 0, 400), true);
            Check.due("3 x 400, y 0", x.point(t, 400, 0), true);
            for (int i = 1; i <= 6; i++) {
                Check.due("3 POINT " + i, x.point(t, 400 - i, t), true);
            }
            Check.due("3 a ninth ahead of a POINT", x.point(t, 1, 5), false);
            Check.due("3 a ninth between", x.point(t, 393, 5), false);
            Check.due("3 none came by it", x.value(t, 394), t);
            Check.due("3 another y of the first of eight", x.point(t, 0, 399), true);
            Check.due("3 another y of the last of eight", x.point(t, 400, 1), true);
            Check.due("3 the same y again", x.point(t, 400, 1), true);
            Check.due("3 the first", x.value(t, 0), 399);
            Check.due("3 the last", x.value(t, 400), 1);
            Check.due("3 still no ninth", x.point(t, 200, 5), false);
        }
        for (int t = 0; t < 7; t++) {
            Check.due("3 each TABLE by itself", x.value(t, 397), t);
        }
    }

    /** "ahead of all the y of the first by x, behind all that of the last; at one its y", at any x. */
    private static void aheadOfAllAndBehindAll() {
        MillBoats x = new MillBoats();
        int[] xs = {250, 30, 100, 31, 399, 7, 398};
        for (int p : xs) {
            Check.due("3 POINTS come in any order", x.point(2, p, p % 100), true);
        }
        int[][] due = {{MIN, 7}, {-1, 7}, {0, 7}, {6, 7}, {7, 7}, {30, 30}, {31, 31}, {100, 0}, {250, 50}, {398, 98},
            {399, 99}, {400, 99}, {401, 99}, {MAX, 99}};
        for (int[] d : due) {
            Check.due("4 value(2, " + d[0] + ")", x.value(2, d[0]), d[1]);
        }
        MillBoats y = new MillBoats();
        int[] any = {MIN, -1, 0, 1, 400, MAX};
        for (int a : any) {
            Check.due("4 without POINTS at " + a, y.value(6, a), 0);
        }
        y.point(6, 200, 5);
        for (int a : any) {
            Check.due("4 one POINT at " + a, y.value(6, a), 5);
        }
    }

    /** "between two straight from one to the other, rounded down (also where it falls)". */
    private static void straightBetweenTwo() {
        int[][] lines = {{0, 0, 400, 400}, {0, 400, 400, 0}, {3, 10, 10, 15}, {3, 15, 10, 10}, {0, 0, 400, 1},
            {0, 1, 400, 0}, {0, 400, 7, 0}, {5, 9, 6, 200}, {0, 1, 3, 0}, {0, 9, 400, 9}};
        for (int[] l : lines) {
            MillBoats x = new MillBoats();
            x.point(0, l[0], l[1]);
            x.point(0, l[2], l[3]);
            for (int at = l[0]; at <= l[2]; at++) {
                // the mean of both ends, by how far it is from each: not below 0, so that / rounds down
                int due = (l[1] * (l[2] - at) + l[3] * (at - l[0])) / (l[2] - l[0]);
                Check.due("4 from (" + l[0] + ", " + l[1] + ") to (" + l[2] + ", " + l[3] + ") at " + at,
                        x.value(0, at), due);
            }
        }
    }

    /** "DRAUGHT (1 to 9), WHEEL (1 to 90), CHAIN (1 to 2000)": each edge by itself. */
    private static void leastAndMostOfAMill() {
        int[][] fine = {{1, 5, 5}, {9, 5, 5}, {5, 1, 5}, {5, 90, 5}, {5, 5, 1}, {5, 5, 2000}};
        MillBoats x = new MillBoats();
        for (int i = 0; i < 6; i++) {
            Check.due("5 an edge", x.mill(fine[i][0], fine[i][1], fine[i][2]), i);
            for (int what = 0; what < 3; what++) {
                Check.due("33 as it came", x.millOf(i, what + 1), fine[i][what]);
            }
        }
        int[][] wrong = {{0, 5, 5}, {10, 5, 5}, {MIN, 5, 5}, {MAX, 5, 5}, {5, 0, 5}, {5, 91, 5}, {5, MIN, 5},
            {5, MAX, 5}, {5, 5, 0}, {5, 5, 2001}, {5, 5, MIN}, {5, 5, MAX}};
        for (int[] w : wrong) {
            MillBoats y = new MillBoats();
            Check.due("5 other numbers", y.mill(w[0], w[1], w[2]), -1);
            Check.due("5 none came", y.count(0), 0);
            Check.due("5 the next is the first", y.mill(1, 1, 1), 0);
        }
    }

    /** "MILLS, at most 6, numbered as they come"; "ASHORE (at first)". */
    private static void sixMills() {
        MillBoats x = new MillBoats();
        for (int m = 0; m < 6; m++) {
            Check.dueNoMill(x, m, 0);
            Check.due("6 not yet", x.moor(m, 0), -1);
            Check.due("5 its number", x.mill(1, m + 1, 1), m);
            Check.due("5 ASHORE", x.millOf(m, 0), -1);
        }
        Check.due("5 six are there", x.mill(1, 7, 1), -1);
        for (int m = 0; m < 6; m++) {
            Check.due("5 they stay", x.millOf(m, 2), m + 1);
        }
        for (int m = 0; m < 6; m++) {
            Check.due("6 each may lie", x.moor(m, 71 - m), 0);
        }
        Check.due("35 all lie", x.count(10), 6);
        Check.dueNoMill(x, 6, 0);
    }

    /** "A MILL is laid at a BERTH, or is ASHORE (NONE), by hand": "no two at one". */
    private static void berthsToMoorAt() {
        MillBoats x = new MillBoats();
        x.mill(1, 1, 1);
        x.mill(1, 1, 1);
        for (int b = 0; b < 72; b++) {
            Check.due("6 BERTH " + b, x.moor(0, b), 0);
            Check.due("6 it lies there", x.millOf(0, 0), b);
            Check.due("6 no two at one", x.moor(1, b), -3);
            Check.due("6 itself again", x.moor(0, b), 0);
        }
        Check.due("6 ASHORE", x.moor(0, -1), 0);
        Check.due("6 ASHORE again", x.moor(0, -1), 0);
        Check.due("6 two ASHORE", x.moor(1, -1), 0);
        // neither DEPTH nor RULES matter by hand
        x.bed(4, 20);
        Check.rules(x, 0, 0, "forbid if 1=1;");
        Check.due("6 by hand, without DEPTH, where it is BARRED", x.moor(1, 4), 0);
    }

    /** "A MILL is DRESSED on this DAY. False: .. it is so already". */
    private static void dressedOnADay() {
        MillBoats x = new MillBoats();
        x.mill(1, 1, 1);
        x.mill(1, 1, 1);
        for (int d = 0; d < 3; d++) {
            Check.due("33 not yet DRESSED on DAY " + d, x.millOf(0, 7), 0);
            Check.due("7 ASHORE too", x.dress(0), true);
            Check.due("7 not twice on DAY " + d, x.dress(0), false);
            Check.due("7 each by itself", x.millOf(1, 7), 0);
            x.moor(0, d);
            Check.due("7 not twice wherever it lies", x.dress(0), false);
            Check.due("33 DRESSED on DAY " + d, x.millOf(0, 7), 1);
            x.day();
        }
    }

    /** "less the SHADOW of each MILL that lies 1 to 3 STRETCHES ahead of it in that LANE". */
    private static void shadowsByStretches() {
        int[] by = {0, 300, 200, 100, 0, 0};
        for (int lane = 0; lane < 6; lane++) {
            MillBoats x = new MillBoats();
            x.point(lane, 0, 400);
            x.mill(1, 50, 1);
            x.mill(1, 1, 1);
            for (int to = 0; to < 12; to++) {
                x.moor(1, -1);
                x.moor(0, lane * 12 + to);
                // the one that casts the SHADOW is 0: WHEEL 50 of 400 takes 150, 100 and 50
                for (int s = 0; s < 12; s++) {
                    if (s != to && Math.abs(s - to) <= 5) {
                        x.moor(1, lane * 12 + s);
                        int behind = s - to;
                        int due = behind >= 1 && behind <= 5 ? 400 - by[behind] / 2 : 400;
                        Check.due("8 behind by " + behind, x.flow(1, 5), due);
                    }
                }
            }
        }
    }

    /** A MILL that is ASHORE or GONE has no SHADOW, also at the first BERTHS; nor has one at the end of a LANE. */
    private static void shadowsOfThoseThatLieNowhere() {
        MillBoats x = new MillBoats();
        x.point(0, 0, 400);
        x.mill(1, 90, 1);
        x.mill(1, 90, 2000);
        x.mill(1, 90, 2000);
        x.bed(11, 4);
        x.moor(0, 11);
        x.day();
        Check.due("35 one is GONE", x.count(11), 1);
        for (int b = 0; b < 3; b++) {
            x.moor(1, b);
            Check.due("8 no SHADOW of one that is GONE or ASHORE at BERTH " + b, x.flow(1, 5), 400);
        }
        MillBoats y = new MillBoats();
        y.point(0, 0, 400);
        y.point(1, 0, 100);
        for (int m = 0; m < 4; m++) {
            y.mill(1, 90, 1);
        }
        y.moor(0, 9);
        y.moor(1, 10);
        y.moor(2, 11);
        for (int b = 12; b < 15; b++) {
            y.moor(3, b);
            Check.due("8 the end of LANE 0 is not ahead of BERTH " + b, y.flow(3, 5), 100);
        }
        // one that doesn't FLOAT lies all the same
        y.moor(3, -1);
        y.moor(0, 8);
        y.bed(8, 20);
        y.moor(1, -1);
        Check.due("8 one that doesn't FLOAT lies ahead", y.flow(2, 5), 400 - 90);
    }

    /** "VALUE times that one's WHEEL times 4 less so many STRETCHES, by 400, rounded down". */
    private static void shadowsRoundedDown() {
        MillBoats x = new MillBoats();
        x.mill(1, 1, 1);
        x.mill(1, 1, 1);
        x.moor(0, 0);
        x.moor(1, 3);
        x.point(0, 0, 399);
        Check.due("8 399 by 400", x.flow(1, 5), 399);
        x.point(0, 0, 400);
        Check.due("8 400 by 400", x.flow(1, 5), 399);
        x.moor(1, 2);
        x.point(0, 0, 199);
        Check.due("8 398 by 400", x.flow(1, 5), 199);
        x.point(0, 0, 200);
        Check.due("8 400 by 400 from two ahead", x.flow(1, 5), 199);
        x.moor(1, 1);
        x.point(0, 0, 133);
        Check.due("8 399 by 400 from one ahead", x.flow(1, 5), 133);
        x.point(0, 0, 134);
        Check.due("8 402 by 400 from one ahead", x.flow(1, 5), 133);
        // two SHADOWS are rounded down each: 399 by 400 and 798 by 400
        MillBoats y = new MillBoats();
        for (int m = 0; m < 3; m++) {
            y.mill(1, 1, 1);
            y.moor(m, m + 1);
        }
        y.moor(0, 0);
        y.point(0, 0, 399);
        Check.due("8 each rounded down by itself", y.flow(2, 5), 399 - 2 - 0);
    }

    /** "0 at least". */
    private static void flowIsZeroAtLeast() {
        int[] wheels = {64, 65, 66, 90};
        int[] due = {2, 0, 0, 0};
        for (int i = 0; i < 4; i++) {
            MillBoats x = new MillBoats();
            x.point(0, 0, 400);
            x.point(6, 0, 7);
            x.point(6, 3, 100);
            x.mill(1, wheels[i], 1);
            x.mill(1, 90, 1);
            x.mill(1, 90, 1);
            x.moor(0, 0);
            x.moor(1, 1);
            x.moor(2, 2);
            // SHADOWS of 270 and of 2 times the WHEEL
            Check.due("8 WHEEL " + wheels[i], x.flow(2, 5), due[i]);
            Check.due("9 POWER at a FLOW of 0", x.power(2, 5), due[i] == 0 ? 7 : 69);
            Check.due("10 PULL at a FLOW of 0", x.pull(2, 5, true), due[i] == 0 ? 0 : 22);
        }
    }

    /** "It FLOATS if DEPTH is DRAUGHT or more"; POWER and PULL are 0 if it doesn't. */
    private static void floats() {
        MillBoats x = new MillBoats();
        x.point(0, 0, 10);
        x.point(6, 0, 9);
        for (int draught = 1; draught <= 6; draught++) {
            int m = x.mill(draught == 6 ? 9 : draught, 20, 1);
            int of = draught == 6 ? 9 : draught;
            x.moor(m, m);
            x.bed(m, 20 - of);
            Check.due("9 DEPTH is DRAUGHT", x.power(m, 20), 9);
            Check.due("9 one less", x.power(m, 19), 0);
            Check.due("10 DEPTH is DRAUGHT", x.pull(m, 20, false), 2 * x.flow(m, 20));
            Check.due("10 one less", x.pull(m, 19, false), 0);
            Check.due("10 one less, with ICE", x.pull(m, 19, true), 0);
            Check.due("8 FLOW is met all the same", x.flow(m, 19), x.flow(m, 20));
            x.bed(m, 21 - of);
            Check.due("9 a BED of one more", x.power(m, 20), 0);
        }
    }

    /** "POWER: VALUE of TABLE 6 at FLOW MET, times 100 less WORN, by 100, rounded down". */
    private static void powerRoundedDown() {
        MillBoats x = new MillBoats();
        x.point(0, 0, 1);
        x.mill(1, 1, 2000);
        x.moor(0, 0);
        x.skiffs(0, 20);
        x.order(0, 5);
        x.point(6, 0, 5);
        x.day();
        Check.due("33 WORN by 1", x.millOf(0, 4), 1);
        int[][] due = {{0, 0}, {1, 0}, {2, 1}, {99, 98}, {100, 99}, {101, 99}, {102, 100}, {400, 396}};
        for (int[] d : due) {
            x.point(6, 0, d[0]);
            Check.due("9 VALUE " + d[0] + ", WORN 1", x.power(0, 5), d[1]);
        }
    }

    /** "WORN is what it ground since it was DRESSED by 5, rounded down". */
    private static void wornSinceDressed() {
        MillBoats x = new MillBoats();
        x.point(6, 0, 1);
        x.mill(1, 1, 2000);
        x.moor(0, 0);
        x.skiffs(0, 20);
        x.order(0, 100);
        for (int d = 1; d <= 11; d++) {
            Check.due("33 WORN ahead of DAY " + d, x.millOf(0, 4), (d - 1) / 5);
            // a VALUE of 2 less a few of a hundred is 1
            x.point(6, 0, d > 5 ? 2 : 1);
            x.day();
            Check.due("33 SACKS", x.millOf(0, 5), d);
        }
        Check.due("33 WORN by 11", x.millOf(0, 4), 2);
        x.dress(0);
        x.day();
        for (int d = 1; d <= 6; d++) {
            x.point(6, 0, d > 5 ? 2 : 1);
            x.day();
            Check.due("33 SACKS since then " + d, x.millOf(0, 5), 11 + d);
            Check.due("33 WORN by those since then alone", x.millOf(0, 4), d / 5);
        }
    }

    /** "PULL: FLOW MET times 20 and WHEEL together, by 20, rounded down; twice with ICE". */
    private static void pullRoundedDown() {
        int[][] due = {{0, 1, 0}, {1, 19, 1}, {1, 20, 2}, {19, 1, 19}, {20, 1, 21}, {39, 1, 40}, {400, 90, 2200},
            {3, 7, 4}};
        for (int[] d : due) {
            MillBoats x = new MillBoats();
            x.point(3, 0, d[0]);
            x.mill(1, d[1], 1);
            x.moor(0, 36);
            Check.due("10 FLOW " + d[0] + ", WHEEL " + d[1], x.pull(0, 5, false), d[2]);
            Check.due("10 twice what is rounded down", x.pull(0, 5, true), 2 * d[2]);
        }
    }

    /** "HEIGHTS are 0 to 20", for each of the four, and not the HEIGHT of the DAY at hand. */
    private static void heightsOfAllFour() {
        MillBoats x = new MillBoats();
        x.point(0, 0, 20);
        x.point(0, 20, 60);
        x.point(6, 0, 0);
        x.point(6, 400, 400);
        x.mill(1, 20, 2000);
        x.mill(1, 25, 2000);
        x.moor(0, 1);
        x.moor(1, 0);
        x.bed(1, 0);
        x.height(0, 11);
        // SHADOW of WHEEL 25: 3 of 16, of 20 it is 3, of 60 it is 11
        Check.due("8 HEIGHT 0", x.flow(0, 0), 17);
        Check.due("8 HEIGHT 20", x.flow(0, 20), 49);
        Check.due("9 HEIGHT 0 is no DEPTH", x.power(0, 0), 0);
        Check.due("9 HEIGHT 20", x.power(0, 20), 49);
        Check.due("10 HEIGHT 0 is no DEPTH", x.pull(0, 0, true), 0);
        Check.due("10 HEIGHT 20", x.pull(0, 20, false), 98);
        Check.due("11 HEIGHT 0 is no DEPTH", x.loss(0, 1, 0), 0);
        Check.due("11 HEIGHT 20", x.loss(0, 1, 20), 11);
        int[] wrong = {MIN, -1, 21, MAX};
        for (int h : wrong) {
            Check.due("8 HEIGHT " + h, x.flow(0, h), -1);
            Check.due("9 HEIGHT " + h, x.power(0, h), -1);
            Check.due("10 HEIGHT " + h, x.pull(0, h, false), -1);
            Check.due("11 HEIGHT " + h, x.loss(0, 1, h), -1);
        }
    }

    /** "How much more POWER (also below 0) a MILL would have if another one were ASHORE." */
    private static void losses() {
        MillBoats x = new MillBoats();
        x.point(0, 0, 400);
        x.point(1, 0, 400);
        x.point(6, 0, 0);
        x.point(6, 400, 400);
        x.mill(1, 50, 2000);
        x.mill(1, 50, 2000);
        x.mill(1, 50, 2000);
        x.moor(0, 0);
        int[] due = {0, 150, 100, 50, 0, 0};
        for (int s = 1; s <= 5; s++) {
            x.moor(1, s);
            Check.due("11 behind by " + s, x.loss(1, 0, 5), due[s]);
            Check.due("11 ahead by " + s, x.loss(0, 1, 5), 0);
            x.moor(1, 12 + s);
            Check.due("11 in another LANE", x.loss(1, 0, 5), 0);
        }
        // two ahead: one of them ASHORE, the other one still casts its SHADOW
        x.moor(1, 1);
        x.moor(2, 2);
        Check.due("11 of two, the nearer", x.loss(2, 1, 5), 150);
        Check.due("11 of two, the other", x.loss(2, 0, 5), 100);
        x.bed(2, 5);
        Check.due("11 one that doesn't FLOAT has none either way", x.loss(2, 1, 5), 0);
        x.bed(2, 0);
        // POWER falls from 400 to 0: as much below 0 as it can be
        x.point(6, 0, 400);
        x.point(6, 150, 400);
        x.point(6, 250, 400);
        x.point(6, 400, 0);
        x.moor(2, -1);
        Check.due("11 below 0", x.loss(1, 0, 5), -400);
        MillBoats y = new MillBoats();
        y.point(5, 0, 100);
        y.mill(1, 50, 1);
        y.mill(1, 50, 2000);
        y.moor(0, 71);
        y.day();
        y.moor(1, 66);
        Check.due("11 the other one is GONE", y.loss(1, 0, 5), -1);
        Check.due("11 it is GONE", y.loss(0, 1, 5), -1);
    }
}
