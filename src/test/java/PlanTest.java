/** Promises 28 to 32: PLANS and the MOVES that lead there. */
public final class PlanTest {
    private PlanTest() {
    }

    public static void main(String[] args) {
        wrongArguments();
        best();
        firstOfTheBest();
        whatCanBe();
        shadowsOfAll();
        notTheMostOfEach();
        byThatDay();
        none();
        planned();
        moves();
        stepsAshore();
        movesByDepthOfToday();
        orderOfMoves();
        noOrder();
        go();
        Check.finish();
    }

    /** Each LANE has a VALUE at any HEIGHT; POWER is FLOW; MILLS of DRAUGHT 1, WHEEL 20, CHAIN 2000. */
    static MillBoats river(int mills, int... values) {
        MillBoats x = new MillBoats();
        for (int t = 0; t < values.length; t++) {
            x.point(t, 0, values[t]);
        }
        x.point(6, 0, 0);
        x.point(6, 400, 400);
        for (int m = 0; m < mills; m++) {
            x.mill(1, 20, 2000);
        }
        return x;
    }

    private static void wrongArguments() {
        MillBoats x = river(5, 40, 50);
        x.day();
        x.mill(1, 20, 1);
        x.moor(5, 11);
        x.day();
        Check.due("28 a PLAN", x.plan(2, 1, 0, 0), 50);
        int[][] wrong = {{1, 1, 0, 0}, {-1, 1, 0, 0}, {1000, 1, 0, 0}, {2, 0, 0, 0}, {2, -1, 0, 0}, {2, 15, 0, 0},
            {2, 32, 0, 0}, {2, 33, 0, 0}, {2, 64, 0, 0}, {2, 65, 0, 0}, {2, Integer.MIN_VALUE, 0, 0},
            {2, 1, -1, 0}, {2, 1, 0, 4}, {2, 1, 1, 0}, {2, 1, 11, 12}, {2, 1, 12, 12}, {2, 1, 5, 4},
            {2, 1, Integer.MIN_VALUE, Integer.MAX_VALUE}};
        for (int[] w : wrong) {
            Check.due("28 plan(" + w[0] + ", " + w[1] + ", " + w[2] + ", " + w[3] + ")",
                    x.plan(w[0], w[1], w[2], w[3]), -1);
            Check.due("28 the latest PLAN stays", x.planned(0), 12);
        }
        Check.due("28 three MILLS, four STRETCHES, DAY 999", x.plan(999, 7, 8, 11), 138);
        Check.due("28 that at hand", x.plan(2, 16, 11, 11), 50);
        Check.due("28 five MILLS without one of number 5", new MillBoats().plan(0, 1, 0, 0), -1);
    }

    private static void best() {
        MillBoats x = river(3, 10, 20, 30, 40, 50, 60);
        Check.due("28 one MILL", x.plan(0, 1, 3, 3), 60);
        Check.due("29 in the best LANE", x.planned(0), 63);
        Check.due("28 three MILLS in one STRETCH", x.plan(0, 7, 3, 3), 150);
        Check.due("29 MILL 0 first", x.planned(0), 39);
        Check.due("29 MILL 1 then", x.planned(1), 51);
        Check.due("29 MILL 2 then", x.planned(2), 63);
        x.moor(1, 63);
        Check.due("28 one lies where it does", x.plan(0, 5, 3, 3), 150);
        Check.due("29 MILL 0 beside it", x.planned(0), 39);
        Check.due("29 MILL 2 beside it", x.planned(2), 51);
        Check.due("29 MILL 1 isn't in it", x.planned(1), -2);
        Check.due("28 the sum of all MILLS", x.plan(0, 1, 5, 5), 60 + 54);
        Check.due("28 nothing moves by a PLAN", x.millOf(0, 0), -1);
    }

    private static void firstOfTheBest() {
        MillBoats x = river(3, 40, 40, 40, 40, 40, 40);
        Check.due("28 three MILLS", x.plan(0, 7, 2, 5), 120);
        Check.due("29 the least BERTH", x.planned(0), 2);
        Check.due("29 the next LANE", x.planned(1), 14);
        Check.due("29 the next LANE again", x.planned(2), 26);
        x.mill(1, 20, 1);
        Check.due("28 one that can be nowhere", x.plan(0, 8 + 1, 2, 5), 40);
        Check.due("29 ASHORE", x.planned(3), -1);
        Check.due("29 not ASHORE", x.planned(0), 2);
        MillBoats y = river(2);
        Check.due("28 POWER of nothing", y.plan(0, 3, 4, 7), 0);
        Check.due("29 ASHORE is behind all", y.planned(0), 4);
        Check.due("29 ASHORE is behind all of the other", y.planned(1), 5);
    }

    private static void whatCanBe() {
        MillBoats x = river(2, 10, 20, 30, 40, 50, 60);
        x.bed(60, 5);
        Check.due("28 it FLOATS", x.plan(0, 1, 0, 0), 50);
        x.bed(60, 4);
        Check.due("28 DEPTH is DRAUGHT", x.plan(0, 1, 0, 0), 60);
        Check.rules(x, 1, 0, "forbid if lane=5 and mill=0;forbid if lane<2;");
        Check.due("28 BARRED by SHORE 1", x.plan(0, 1, 0, 0), 50);
        Check.due("28 the other MILL isn't", x.plan(0, 2, 0, 0), 60);
        Check.rules(x, 0, 0, "forbid if lane>1;");
        x.moor(1, 48);
        x.mill(1, 20, 2000);
        x.moor(2, 60);
        Check.due("28 BARRED by SHORE 0", x.plan(0, 1, 0, 0), 50 + 60 + 20);
        Check.due("29 where SHORE 1 has no say", x.planned(0), 12);
        MillBoats y = river(0, 10, 20, 30, 40, 50, 60);
        y.mill(1, 20, 100);
        Check.due("28 PULL of its CHAIN at most", y.plan(0, 1, 0, 0), 50);
        y.ice(0, true);
        Check.due("28 with ICE", y.plan(0, 1, 0, 0), 20);
        Check.due("28 on another DAY", y.plan(1, 1, 0, 0), 50);
        y.mill(1, 90, 2000);
        y.moor(1, 60);
        y.ice(0, false);
        Check.due("28 PULL in the SHADOW", y.plan(0, 1, 1, 1), 60 + 50);
        Check.due("28 PULL in the SHADOW of 40", y.plan(0, 1, 3, 3), 60 + 50);
        y.point(5, 0, 100);
        Check.due("28 less PULL by the SHADOW", y.plan(0, 1, 1, 1), 100 + 50);
        Check.due("29 not in LANE 5", y.planned(0), 49);
        y.mill(1, 90, 2000);
        y.moor(2, 61);
        Check.due("28 by two SHADOWS less", y.plan(0, 1, 2, 2), 100 + 33 + 50);
    }

    private static void shadowsOfAll() {
        // a MILL in LANE 1 behind the STRETCH: the one that comes would take its flow
        MillBoats x = river(2, 40, 41, 30);
        x.moor(1, 14);
        Check.due("28 the others' POWER counts", x.plan(0, 1, 1, 1), 41 + 40);
        Check.due("29 LANE 0, as LANE 1 takes from the other", x.planned(0), 1);
        x.moor(1, 12);
        Check.due("28 the SHADOW of the other", x.plan(0, 1, 1, 1), 41 + 40);
        MillBoats z = river(2, 10, 20, 30, 40, 50, 400);
        z.moor(1, 62);
        Check.due("28 the last of 24 BERTHS is out of the SHADOW", z.plan(0, 1, 3, 6), 800);
        Check.due("29 the last of 24 BERTHS", z.planned(0), 66);
        MillBoats y = river(3, 100, 10);
        Check.due("28 three in one LANE", y.plan(0, 7, 0, 3), 100 + 85 + 85);
        Check.due("29 0 first", y.planned(0), 0);
        Check.due("29 1 at 1 or 2", y.planned(1), 1);
        Check.due("29 2 at the end", y.planned(2), 3);
    }

    private static void notTheMostOfEach() {
        // POWER falls with FLOW: a MILL does better in the SHADOW
        MillBoats x = new MillBoats();
        x.point(0, 0, 100);
        x.point(6, 0, 0);
        x.point(6, 85, 200);
        x.point(6, 100, 10);
        x.mill(1, 20, 2000);
        x.mill(1, 20, 2000);
        Check.due("28 one alone", x.plan(0, 1, 0, 1), 10);
        Check.due("28 one in the SHADOW of the other", x.plan(0, 3, 0, 1), 210);
        Check.due("29 MILL 0 ahead", x.planned(0), 0);
        Check.due("29 MILL 1 behind", x.planned(1), 1);
    }

    private static void byThatDay() {
        MillBoats x = river(1, 10);
        x.point(0, 20, 210);
        Check.due("28 HEIGHT 5", x.plan(0, 1, 0, 0), 60);
        x.height(3, 10);
        Check.due("28 HEIGHT of DAY 3", x.plan(3, 1, 0, 0), 110);
        Check.due("28 HEIGHT of DAY 2", x.plan(2, 1, 0, 0), 60);
        x.day();
        x.height(3, 12);
        Check.due("28 as known at the DAY at hand", x.plan(3, 1, 0, 0), 130);
        Check.rules(x, 0, 4, "forbid if lane=0;");
        Check.due("28 RULES of that DAY", x.plan(4, 1, 0, 0), 0);
        Check.due("29 in another LANE", x.planned(0), 12);
        Check.due("28 RULES of DAY 3", x.plan(3, 1, 0, 0), 130);
        Check.rules(x, 0, 2, "way 6 if height=12 and stretch=1;way 5 if stretch=0;");
        Check.due("28 the WAY of a STRETCH", x.plan(3, 1, 1, 1), 0);
        Check.due("29 ASHORE for the WAY", x.planned(0), -1);
        Check.due("28 a WAY of five", x.plan(3, 1, 0, 0), 130);
        Check.due("28 of one of its STRETCHES", x.plan(3, 1, 0, 1), 130);
        Check.due("29 not in STRETCH 1", x.planned(0), 0);
        x.bed(60, 11);
        Check.due("28 DEPTH for the WAY", x.plan(3, 1, 0, 0), 0);
        x.bed(60, 10);
        Check.due("28 DEPTH 2 for the WAY", x.plan(3, 1, 0, 0), 130);
    }

    private static void none() {
        MillBoats x = river(2, 40);
        Check.due("28 a PLAN", x.plan(0, 1, 0, 0), 40);
        x.moor(1, 24);
        Check.rules(x, 0, 0, "way 4 if stretch=0;");
        Check.due("28 none can be", x.plan(0, 1, 0, 1), -1);
        Check.due("29 there is no PLAN then", x.planned(0), -2);
        Check.due("30 no PLAN", x.moves(), -1);
        Check.due("31 no PLAN", x.move(0, 0), -1);
        Check.due("32 no PLAN", x.go(), -1);
        Check.due("28 without STRETCH 0", x.plan(0, 1, 1, 2), 40);
        x.moor(1, 36);
        Check.due("28 the other one is in it", x.plan(0, 3, 0, 0), 40 + 0);
    }

    private static void planned() {
        MillBoats x = river(3, 40, 30);
        Check.due("29 none yet", x.planned(0), -2);
        x.plan(0, 5, 0, 0);
        Check.due("29 MILL 0", x.planned(0), 0);
        Check.due("29 MILL 1", x.planned(1), -2);
        Check.due("29 MILL 2", x.planned(2), 12);
        Check.due("29 MILL -1", x.planned(-1), -2);
        Check.due("29 MILL 6", x.planned(6), -2);
        Check.due("29 MILL 32", x.planned(32), -2);
        x.moor(0, 50);
        x.day();
        Check.due("29 the latest PLAN stays", x.planned(0), 0);
        x.plan(1, 2, 0, 0);
        Check.due("29 by the latest PLAN alone", x.planned(0), -2);
    }

    private static void moves() {
        MillBoats x = river(3, 40, 30, 20);
        x.plan(0, 7, 0, 0);
        x.moor(0, 0);
        x.moor(1, 12 + 3);
        x.moor(2, 24);
        Check.due("30 one MOVE", x.moves(), 1);
        Check.due("31 its MILL", x.move(0, 0), 1);
        Check.due("31 its STEPS", x.move(0, 1), 3);
        Check.due("31 k -1", x.move(-1, 0), -1);
        Check.due("31 k 1", x.move(1, 0), -1);
        Check.due("31 what -1", x.move(0, -1), -1);
        Check.due("31 what 2", x.move(0, 2), -1);
        x.moor(2, 13);
        Check.due("30 two MOVES", x.moves(), 2);
        Check.due("31 MILL 1 first", x.move(0, 0), 1);
        Check.due("31 its STEPS around the other", x.move(0, 1), 5);
        Check.due("31 MILL 2 then", x.move(1, 0), 2);
        Check.due("31 its STEPS", x.move(1, 1), 2);
        x.moor(2, 71);
        Check.due("31 far away", x.move(1, 1), 3 + 11);
        x.moor(1, 12);
        x.moor(2, 24);
        Check.due("30 all lie there", x.moves(), 0);
        Check.due("31 no MOVE", x.move(0, 0), -1);
        Check.due("32 nothing is done", x.go(), 0);
    }

    private static void stepsAshore() {
        MillBoats x = river(2, 40);
        x.plan(0, 1, 0, 0);
        Check.due("31 comes in at its BERTH", x.move(0, 1), 1);
        x.moor(1, 1);
        x.bed(12, 9);
        Check.due("30 comes in though all beside is closed", x.moves(), 1);
        x.moor(1, -1);
        x.bed(12, 0);
        MillBoats y = river(2, 0, 0, 40, 0, 0, 0);
        y.plan(0, 1, 6, 6);
        Check.due("29 LANE 2", y.planned(0), 30);
        Check.due("31 in by LANE 0 and on", y.move(0, 1), 3);
        y.moor(1, 18);
        Check.due("31 around another one", y.move(0, 1), 4);
        for (int s = 0; s < 12; s++) {
            y.bed(s, 9);
        }
        Check.due("31 in by LANE 5", y.move(0, 1), 4);
        MillBoats z = river(1, 40);
        Check.rules(z, 0, 0, "way 6 if 1=1;");
        z.plan(0, 1, 3, 3);
        Check.due("29 ASHORE", z.planned(0), -1);
        z.moor(0, 27);
        Check.due("31 out by LANE 0", z.move(0, 1), 3);
        z.moor(0, 39);
        Check.due("31 out by LANE 5", z.move(0, 1), 3);
        z.moor(0, 3);
        z.bed(3, 20);
        Check.due("31 out from where it is AGROUND", z.move(0, 1), 1);
        z.moor(0, 15);
        Check.due("31 around what isn't deep", z.move(0, 1), 3);
        z.moor(0, 60);
        Check.due("31 out at once", z.move(0, 1), 1);
    }

    private static void movesByDepthOfToday() {
        MillBoats x = new MillBoats();
        x.point(0, 0, 40);
        x.point(6, 0, 10);
        x.mill(4, 20, 2000);
        x.height(2, 9);
        x.bed(0, 2);
        x.bed(12, 9);
        Check.due("28 on DAY 2 it FLOATS there", x.plan(2, 1, 0, 0), 10);
        Check.due("29 there", x.planned(0), 0);
        Check.due("30 now it can't go there", x.moves(), -2);
        Check.due("32 nothing is done", x.go(), -2);
        Check.due("33 it is where it was", x.millOf(0, 0), -1);
        x.height(0, 6);
        Check.due("30 HEIGHT of the DAY at hand as known then", x.moves(), 1);
        x.height(0, 5);
        x.day();
        x.day();
        Check.due("30 on DAY 2 it can", x.moves(), 1);
        x.moor(0, 12);
        Check.due("31 from a BERTH that isn't deep", x.move(0, 1), 1);
    }

    private static void orderOfMoves() {
        // MILL 0 lies where MILL 1 is to lie, and can go only when MILL 1 is out of its way
        MillBoats x = river(2, 50, 40);
        x.plan(0, 3, 0, 0);
        Check.due("29 MILL 0", x.planned(0), 0);
        Check.due("29 MILL 1", x.planned(1), 12);
        x.moor(0, 12);
        x.moor(1, 5);
        Check.due("30 two MOVES", x.moves(), 2);
        Check.due("31 MILL 0 first", x.move(0, 0), 0);
        Check.due("31 one STEP", x.move(0, 1), 1);
        Check.due("31 MILL 1 then", x.move(1, 0), 1);
        Check.due("31 six STEPS", x.move(1, 1), 6);
        x.moor(0, -1);
        x.moor(1, 0);
        x.moor(0, 5);
        Check.due("31 MILL 1 lies in the way", x.move(0, 0), 1);
        Check.due("31 so MILL 0 is the second", x.move(1, 0), 0);
        Check.due("31 its STEPS", x.move(1, 1), 5);
        // MILL 0 could go first, but then MILL 1 could go no more
        MillBoats y = river(3, 50, 50, 50);
        for (int b = 0; b < 72; b++) {
            y.bed(b, b == 0 || b == 1 || b == 2 || b == 3 ? 0 : 5);
        }
        Check.rules(y, 0, 0, "forbid if mill=1 and stretch<2;forbid if mill=0 and not stretch=1;");
        Check.due("28 two MILLS", y.plan(0, 3, 0, 3) > 0, true);
        Check.due("29 MILL 0 at 1", y.planned(0), 1);
        y.bed(3, 5);
        y.bed(2, 0);
        y.plan(0, 3, 0, 2);
        Check.due("29 MILL 1 at 2", y.planned(1), 2);
        y.moor(1, 0);
        Check.due("30 both can go", y.moves(), 2);
        Check.due("31 MILL 1 first, though MILL 0 could", y.move(0, 0), 1);
        Check.due("31 MILL 0 after it", y.move(1, 0), 0);
        Check.due("31 MILL 0 in by 0 and on", y.move(1, 1), 1);
    }

    private static void noOrder() {
        // each lies where the other one is to lie
        MillBoats x = river(2, 50, 40);
        x.plan(0, 3, 0, 0);
        x.moor(0, 12);
        x.moor(1, 0);
        Check.due("30 none goes first", x.moves(), -2);
        Check.due("31 none", x.move(0, 0), -1);
        Check.due("32 -2", x.go(), -2);
        Check.due("32 nothing is done", x.millOf(0, 0), 12);
        // another MILL lies there
        MillBoats y = river(2, 50, 40);
        y.plan(0, 1, 0, 0);
        y.moor(1, 0);
        Check.due("30 another one lies there", y.moves(), -2);
        y.moor(1, -1);
        Check.due("30 no more", y.moves(), 1);
        // GONE
        MillBoats z = river(0, 0, 0, 0, 0, 0, 50);
        z.mill(1, 20, 120);
        z.plan(0, 1, 11, 11);
        z.go();
        Check.due("30 it lies there", z.moves(), 0);
        z.ice(0, true);
        z.day();
        Check.due("33 it is GONE", z.millOf(0, 0), -2);
        Check.due("30 a MILL of it is GONE", z.moves(), -2);
        Check.due("31 none", z.move(0, 0), -1);
        Check.due("32 -2", z.go(), -2);
        Check.due("29 planned all the same", z.planned(0), 71);
    }

    private static void go() {
        MillBoats x = river(3, 50, 40, 30);
        x.plan(0, 7, 4, 4);
        Check.due("32 three MOVES", x.go(), 3);
        Check.due("33 MILL 0", x.millOf(0, 0), 4);
        Check.due("33 MILL 1", x.millOf(1, 0), 16);
        Check.due("33 MILL 2", x.millOf(2, 0), 28);
        Check.due("29 the PLAN stays", x.planned(2), 28);
        Check.due("30 nothing to do", x.moves(), 0);
        x.moor(2, 3);
        Check.due("32 one MOVE", x.go(), 1);
        Check.due("33 MILL 2 again", x.millOf(2, 0), 28);
        Check.rules(x, 0, 0, "way 6 if stretch=4;");
        Check.due("28 all are to be ASHORE", x.plan(0, 7, 4, 4), 0);
        Check.due("32 three go out", x.go(), 3);
        Check.due("35 no MILL at a BERTH", x.count(10), 0);
    }
}
