/** The boundaries that the document names for a PLAN and its MOVES (promises 28 to 32). */
public final class PlanEdgesTest {
    private PlanEdgesTest() {
    }

    public static void main(String[] args) {
        daysOfAPlan();
        oneToThreeMills();
        fourStretches();
        noTwoAtOne();
        itsOwnBerthIsFree();
        floatsThere();
        pullOfItsChain();
        pullOfThatDay();
        pullInShadow();
        othersLieAsTheyDo();
        notBarred();
        wayOfEachStretch();
        wayOfOtherStretches();
        wayOfSix();
        greatestSum();
        wornGivesWay();
        powerPeaksBetween();
        powerOfEightPoints();
        powerOfNoFlow();
        firstMillByMill();
        ashoreBehindAll();
        sumOfNothing();
        latestPlan();
        sideBySide();
        inAndOutAnywhere();
        depthOnTheWay();
        depthOfTheDayAtHand();
        othersOnTheWay();
        stepsOfASecondMove();
        firstOrder();
        eachOnce();
        goneFromThePlan();
        goesAndStays();
        goesByTheLatestPlan();
        Check.finish();
    }

    private static void planned(String what, MillBoats x, int... berths) {
        for (int m = 0; m < berths.length; m++) {
            Check.due("29 " + what + ": MILL " + m, x.planned(m), berths[m]);
        }
    }

    /** MOVES as pairs of MILL and STEPS. */
    private static void moves(String what, MillBoats x, int... pairs) {
        Check.due("30 " + what, x.moves(), pairs.length / 2);
        for (int k = 0; k < pairs.length / 2; k++) {
            Check.due("31 " + what + ": MILL of MOVE " + k, x.move(k, 0), pairs[2 * k]);
            Check.due("31 " + what + ": STEPS of MOVE " + k, x.move(k, 1), pairs[2 * k + 1]);
        }
        Check.due("31 " + what + ": no more", x.move(pairs.length / 2, 0), -1);
        Check.due("31 " + what + ": no more", x.move(pairs.length / 2, 1), -1);
    }

    /** A DAY "(that at hand or later)", up to 999. */
    private static void daysOfAPlan() {
        MillBoats x = PlanTest.river(1, 40);
        x.height(998, 0);
        x.height(999, 9);
        Check.due("28 the first DAY", x.plan(0, 1, 0, 0), 40);
        Check.due("28 DAY 998", x.plan(998, 1, 0, 0), 0);
        Check.due("28 DAY 999", x.plan(999, 1, 0, 0), 40);
        Check.due("28 DAY 1000", x.plan(1000, 1, 0, 0), -1);
        Check.due("28 DAY -1", x.plan(-1, 1, 0, 0), -1);
        x.day();
        Check.due("28 DAY 0 has gone by", x.plan(0, 1, 0, 0), -1);
        Check.due("28 DAY 1", x.plan(1, 1, 0, 0), 40);
    }

    /** "1 to 3 MILLS", as bits of those that there are. */
    private static void oneToThreeMills() {
        for (int mills = 0; mills <= 6; mills++) {
            MillBoats x = PlanTest.river(mills, 10, 10, 10, 10, 10, 10);
            for (int bits = -1; bits <= 64; bits++) {
                int n = Integer.bitCount(bits);
                boolean can = bits > 0 && bits < 1 << mills && n >= 1 && n <= 3;
                Check.due("28 bits " + bits + " of " + mills + " MILLS", x.plan(0, bits, 11, 11), can ? 10 * n : -1);
            }
        }
    }

    /** "STRETCHES from one to another (4 at most)". */
    private static void fourStretches() {
        MillBoats x = PlanTest.river(1, 40);
        for (int from = -1; from <= 12; from++) {
            for (int to = -1; to <= 12; to++) {
                boolean can = from >= 0 && to <= 11 && from <= to && to - from <= 3;
                Check.due("28 STRETCHES " + from + " to " + to, x.plan(0, 1, from, to), can ? 40 : -1);
                if (can) {
                    Check.due("29 the first of them", x.planned(0), from);
                }
            }
        }
    }

    /** "no two at one": those of the PLAN, and one of the PLAN and another one. */
    private static void noTwoAtOne() {
        MillBoats x = PlanTest.river(4, 90, 50, 40, 30);
        Check.due("28 three in one STRETCH", x.plan(0, 7, 6, 6), 90 + 50 + 40);
        planned("three", x, 6, 18, 30, -2);
        x.moor(3, 6);
        Check.due("28 another one lies at the best", x.plan(0, 7, 6, 6), 90 + 50 + 40 + 30);
        planned("three beside it", x, 18, 30, 42, -2);
        x.moor(3, 18);
        Check.due("28 another one lies at the next", x.plan(0, 3, 6, 6), 90 + 50 + 40);
        planned("two beside it", x, 6, 30, -2, -2);
    }

    /** A BERTH where a MILL of the PLAN lies now is free for all of the PLAN. */
    private static void itsOwnBerthIsFree() {
        MillBoats x = PlanTest.river(2, 90, 50);
        x.moor(0, 18);
        x.moor(1, 6);
        Check.due("28 both", x.plan(0, 3, 6, 6), 140);
        planned("both", x, 6, 18);
        Check.due("28 one alone stays where it is", x.plan(0, 1, 6, 6), 140);
        planned("one", x, 18, -2);
        Check.due("28 or stays there", x.plan(0, 2, 6, 6), 140);
        planned("the other", x, -2, 6);
        Check.due("33 nothing moves", x.millOf(0, 0), 18);
    }

    /** "each of these FLOATS": DEPTH of that DAY, DRAUGHT or more. */
    private static void floatsThere() {
        for (int bed = 10; bed <= 12; bed++) {
            MillBoats x = PlanTest.river(0, 90, 50);
            x.mill(9, 20, 2000);
            x.height(0, 0);
            x.height(5, 20);
            x.bed(3, bed);
            Check.due("28 BED " + bed, x.plan(5, 1, 3, 3), bed == 12 ? 50 : 90);
            Check.due("29 BED " + bed, x.planned(0), bed == 12 ? 15 : 3);
            Check.due("28 on DAY 4 it FLOATS nowhere", x.plan(4, 1, 3, 3), 0);
            Check.due("29 so it is ASHORE", x.planned(0), -1);
        }
    }

    /** "a PULL of its CHAIN at most (with ICE, if that DAY has it)". */
    private static void pullOfItsChain() {
        for (int ice = 0; ice < 2; ice++) {
            int pull = ice == 0 ? 180 : 360;
            for (int chain = pull - 1; chain <= pull + 1; chain++) {
                MillBoats x = PlanTest.river(0, 90, 50);
                x.mill(1, 20, chain);
                x.ice(7, ice == 1);
                Check.due("28 CHAIN " + chain, x.plan(7, 1, 0, 0), chain < pull ? 50 : 90);
                Check.due("29 CHAIN " + chain, x.planned(0), chain < pull ? 12 : 0);
                Check.due("28 without ICE on DAY 6", x.plan(6, 1, 0, 0), chain < 180 ? 50 : 90);
                Check.due("28 without ICE on DAY 8", x.plan(8, 1, 0, 0), chain < 180 ? 50 : 90);
            }
        }
    }

    /** PULL by the HEIGHT of that DAY, and its ICE, as known at the DAY at hand. */
    private static void pullOfThatDay() {
        MillBoats x = new MillBoats();
        x.point(0, 5, 60);
        x.point(0, 9, 100);
        x.point(1, 5, 50);
        x.point(6, 0, 0);
        x.point(6, 400, 400);
        x.mill(1, 20, 199);
        x.height(3, 9);
        x.height(4, 5);
        Check.due("28 DAY 2, HEIGHT 5: 120 of 199", x.plan(2, 1, 0, 0), 60);
        Check.due("28 DAY 3, HEIGHT 9: 200 of 199", x.plan(3, 1, 0, 0), 50);
        planned("DAY 3", x, 12);
        x.day();
        x.ice(4, true);
        Check.due("28 DAY 4, ICE as known on DAY 1: 200 of 199", x.plan(4, 1, 0, 0), 0);
        planned("DAY 4, LANE 2", x, 24);
        Check.due("28 DAY 5, no ICE", x.plan(5, 1, 0, 0), 60);
        x.ice(4, false);
        Check.due("28 DAY 4, no more ICE", x.plan(4, 1, 0, 0), 60);
        x.height(3, 8);
        Check.due("28 DAY 3, HEIGHT 8 as known on DAY 1: 180 of 199", x.plan(3, 1, 0, 0), 90);
    }

    /** PULL by FLOW MET as all lie by the PLAN. */
    private static void pullInShadow() {
        for (int chain = 169; chain <= 170; chain++) {
            // 100 less 15 by one right ahead: a PULL of 170; LANE 1 has but 20
            MillBoats x = PlanTest.river(0, 100, 20);
            x.mill(1, 20, chain);
            x.mill(1, 20, 2000);
            boolean can = chain == 170;
            Check.due("28 behind the other one", x.plan(0, 3, 0, 1), can ? 100 + 85 : 100 + 20);
            planned("behind the other one", x, can ? 1 : 12, 0);
        }
        // the one that comes ahead holds the other one's PULL low, but that one isn't of the PLAN
        MillBoats y = PlanTest.river(1, 100, 99);
        y.mill(1, 20, 1);
        y.moor(1, 5);
        Check.due("28 the other one's PULL is above its CHAIN", y.plan(0, 1, 8, 8), 100 + 99);
        planned("beside it", y, 20, -2);
    }

    /** "all others lie as they do": they needn't FLOAT, be let there, nor hold. */
    private static void othersLieAsTheyDo() {
        MillBoats x = PlanTest.river(1, 100, 40);
        x.mill(6, 90, 1);
        x.mill(1, 20, 1);
        x.moor(1, 0);
        x.moor(2, 12);
        Check.rules(x, 0, 0, "forbid if not mill=0;");
        // 1 at 0 doesn't FLOAT, but is in the way and takes 270 of 400 of what is behind it
        Check.due("28 behind one that doesn't FLOAT", x.plan(0, 1, 0, 3), 40 + 78);
        planned("from 3 ahead", x, 3, -2, -2);
        Check.due("28 as LANE 2 has no TABLE", x.plan(0, 1, 0, 0), 40);
        planned("beside both", x, 24, -2, -2);
    }

    /** "is not BARRED", by RULES of that DAY as known at the DAY at hand. */
    private static void notBarred() {
        MillBoats x = PlanTest.river(1, 10, 20, 30, 40, 50, 60);
        Check.rules(x, 0, 0, "forbid if 1=1;");
        Check.due("28 LANE 4 and 5 are left", x.plan(0, 1, 0, 3), 60);
        Check.rules(x, 1, 3, "forbid if 1=1;");
        Check.due("28 DAY 2", x.plan(2, 1, 0, 3), 60);
        Check.due("28 none is left on DAY 3", x.plan(3, 1, 0, 3), 0);
        planned("ASHORE", x, -1);
        Check.rules(x, 0, 3, "allow if 1=1;");
        Check.due("28 LANES 0 and 1, as a QUARREL bars", x.plan(3, 1, 0, 3), 20);
        planned("LANE 1", x, 12);
        Check.rules(x, 1, 3, "forbid if stretch>0 or depth<5 or not mill=0 or not height=5 or not day=3;");
        Check.due("28 by NAMES of that BERTH and DAY", x.plan(3, 1, 0, 3), 60);
        planned("LANE 5, STRETCH 0", x, 60);
    }

    /** "the WAY of each of these STRETCHES is KEPT": the first, the last, and those between. */
    private static void wayOfEachStretch() {
        for (int s = 0; s < 12; s++) {
            MillBoats x = PlanTest.river(2, 10, 10, 10, 10, 10, 60);
            x.moor(1, s);
            Check.rules(x, 0, 0, "way 6 if stretch=" + s + ";");
            for (int from = Math.max(0, s - 4); from <= Math.min(11, s + 1); from++) {
                int to = Math.min(11, from + 3);
                boolean among = from <= s && s <= to;
                Check.due("28 WAY of " + s + " in " + from + " to " + to, x.plan(0, 1, from, to), among ? -1 : 70);
                Check.due("29 WAY of " + s + " in " + from + " to " + to, x.planned(0), among ? -2 : 60 + from);
            }
        }
    }

    /** A WAY that isn't KEPT right ahead of these STRETCHES or right behind them doesn't matter. */
    private static void wayOfOtherStretches() {
        MillBoats x = PlanTest.river(1, 40);
        Check.rules(x, 0, 0, "way 6 if stretch<3 or stretch>6;");
        x.bed(2, 4);
        x.bed(7, 4);
        Check.due("28 not KEPT", x.kept(2), 0);
        Check.due("28 not KEPT", x.kept(7), 0);
        Check.due("28 between both", x.plan(0, 1, 3, 6), 40);
        Check.due("28 with the one ahead", x.plan(0, 1, 2, 5), -1);
        Check.due("28 with the one behind", x.plan(0, 1, 4, 7), -1);
    }

    /** "so many LANES side by side": how many may lie in a STRETCH. */
    private static void wayOfSix() {
        int[] due = {180, 180, 180, 180, 120, 60, 0};
        for (int n = 0; n <= 6; n++) {
            MillBoats x = PlanTest.river(3, 60, 60, 60, 60, 60, 60);
            Check.rules(x, 1, 0, "way " + n + " if 1=1;");
            Check.due("28 WAY " + n, x.plan(0, 7, 4, 4), due[n]);
            planned("WAY " + n, x, n <= 5 ? 4 : -1, n <= 4 ? 16 : -1, n <= 3 ? 28 : -1);
            // DEPTH 1 in LANE 5 leaves five LANES for the WAY, and that one for a MILL of DRAUGHT 1
            x.bed(64, 4);
            Check.due("28 WAY " + n + " of five LANES", x.plan(0, 7, 4, 4), n == 6 ? -1 : due[n]);
            // DEPTH 0 leaves none there
            x.bed(64, 5);
            Check.due("28 WAY " + n + " of five LANES alone", x.plan(0, 7, 4, 4),
                    n == 6 ? -1 : Math.min(180, 60 * (5 - n)));
        }
    }

    /** "the greatest sum of POWER of all MILLS": also of those that aren't in the PLAN. */
    private static void greatestSum() {
        // 1 lies behind: the best place for 0 alone takes more from 1 than the next one costs
        MillBoats x = PlanTest.river(2, 100, 90);
        x.moor(1, 3);
        Check.due("28 all together", x.plan(0, 1, 2, 2), 90 + 100);
        planned("LANE 1", x, 14, -2);
        x.point(1, 0, 85);
        Check.due("28 as much in both", x.plan(0, 1, 2, 2), 100 + 85);
        planned("the lesser BERTH", x, 2, -2);
        x.point(1, 0, 84);
        Check.due("28 more in LANE 0", x.plan(0, 1, 2, 2), 100 + 85);
        planned("LANE 0", x, 2, -2);
        // ASHORE is best where it would take more than it has
        MillBoats y = PlanTest.river(0, 100);
        y.mill(1, 90, 2000);
        y.mill(1, 20, 2000);
        y.mill(1, 20, 2000);
        y.mill(1, 20, 2000);
        for (int s = 2; s < 5; s++) {
            y.moor(s - 1, s);
        }
        y.point(6, 70, 0);
        y.point(6, 75, 75);
        // POWER of a FLOW of 70 or less is 0; without one ahead they meet 100, 85 and 75
        Check.rules(y, 0, 0, "forbid if lane>0;");
        Check.rules(y, 1, 0, "forbid if lane>0;");
        Check.due("28 ASHORE takes nothing", y.plan(0, 1, 1, 1), 100 + 85 + 75);
        planned("ASHORE", y, -1, -2, -2, -2);
    }

    /** "POWER .. less WORN": one that is WORN leaves the best BERTH to the other, though that is behind in number. */
    private static void wornGivesWay() {
        MillBoats x = PlanTest.river(2, 100, 10);
        x.moor(0, 0);
        x.skiffs(0, 20);
        x.order(0, 250);
        for (int d = 0; d < 5; d++) {
            x.day();
        }
        Check.due("33 WORN", x.millOf(0, 4) >= 40, true);
        int worn = x.millOf(0, 4);
        Check.due("28 the other one at the best BERTH", x.plan(5, 3, 0, 0), 100 + 10 * (100 - worn) / 100);
        planned("the other one at the best BERTH", x, 12, 0);
        x.dress(0);
        x.dress(1);
        Check.due("28 DRESSED", x.plan(6, 3, 0, 0), 110);
        planned("DRESSED", x, 0, 12);
    }

    /** TABLE 6 may have its most between: the best is found behind others of less, by FLOW that a SHADOW left. */
    private static void powerPeaksBetween() {
        // LANE 1 gives 30 to each: as much as LANE 2 by its ends
        MillBoats x = PlanTest.river(2, 40, 200, 100);
        x.point(6, 20, 20);
        x.point(6, 84, 0);
        x.point(6, 85, 400);
        x.point(6, 86, 0);
        x.point(6, 100, 30);
        x.point(6, 400, 30);
        // one in the SHADOW of the other in LANE 2, FLOW 85
        Check.due("28 the peak", x.plan(0, 3, 0, 1), 30 + 400);
        planned("the peak", x, 24, 25);
        Check.due("28 one alone", x.plan(0, 1, 0, 1), 30);
        planned("one alone, FLOW 200 as good as 100", x, 12);
    }

    /** TABLE 6 with all of its eight POINTS, and FLOW behind them all. */
    private static void powerOfEightPoints() {
        MillBoats x = new MillBoats();
        x.point(0, 0, 350);
        x.point(1, 0, 400);
        for (int i = 0; i < 8; i++) {
            Check.due("3 POINT " + i, x.point(6, 40 * i, 10 * i), true);
        }
        x.mill(1, 20, 2000);
        x.mill(1, 20, 2000);
        Check.due("28 both behind the last POINT", x.plan(0, 3, 0, 0), 140);
        planned("both", x, 0, 12);
        x.point(6, 280, 5);
        Check.due("28 the last POINT is less", x.plan(0, 3, 0, 0), 10);
        planned("both still", x, 0, 12);
    }

    /** POWER at a FLOW of 0 or next to it may be the most. */
    private static void powerOfNoFlow() {
        MillBoats x = new MillBoats();
        x.point(0, 0, 400);
        x.point(1, 0, 10);
        x.point(6, 0, 300);
        x.point(6, 1, 0);
        x.point(6, 10, 1);
        x.point(6, 400, 2);
        for (int m = 0; m < 3; m++) {
            x.mill(1, 90, 2000);
        }
        // three in LANE 0: SHADOWS of 270 and of 180 leave a FLOW of 0; CHAINS hold 400 * 110 / 20 = 2200 not
        Check.due("28 ASHORE or in a LANE of no FLOW", x.plan(0, 7, 0, 3), 900);
        planned("LANE 2, which has no FLOW", x, 24, 25, 26);
        Check.rules(x, 0, 0, "forbid if lane>1;");
        Check.rules(x, 1, 0, "forbid if lane>1;");
        x.point(0, 0, 300);
        // FLOW 300, then 300 - 202, then 300 - 202 - 135: 0 for the third
        Check.due("28 the third of three in LANE 0 meets none", x.plan(0, 7, 0, 3), 1 + 1 + 300);
        planned("the first of all", x, 0, 1, 2);
    }

    /** "of these the first, MILL by MILL: the lesser BERTH first". */
    private static void firstMillByMill() {
        // 12 is as good as 1, and 0 for MILL 0 leaves 1 or 12 to MILL 1
        MillBoats x = PlanTest.river(3, 40, 34);
        Check.due("28 two in LANES 0 and 1", x.plan(0, 3, 0, 1), 40 + 34);
        planned("the lesser BERTH of MILL 1", x, 0, 1);
        // MILL 0 may not be at the least BERTH
        Check.rules(x, 0, 0, "forbid if mill=0 and stretch=0 and lane=0;");
        Check.due("28 MILL 0 at 1", x.plan(0, 3, 0, 1), 40 + 34);
        planned("MILL 0 as little as it may", x, 1, 0);
        Check.due("28 three", x.plan(0, 7, 0, 1), 40 + 34 + 34);
        planned("three", x, 1, 0, 12);
        // number by number, not by where they lie now
        MillBoats y = PlanTest.river(6, 50, 50, 50);
        y.moor(5, 0);
        y.moor(3, 12);
        Check.due("28 MILLS 1, 3 and 5", y.plan(0, 2 + 8 + 32, 0, 0), 150);
        planned("by numbers", y, -2, 0, -2, 12, -2, 24);
    }

    /** "ASHORE behind all": of the same sum a BERTH, also the last of all, comes first. */
    private static void ashoreBehindAll() {
        MillBoats x = PlanTest.river(2, 40);
        Check.rules(x, 0, 0, "forbid if mill=0;");
        Check.rules(x, 1, 0, "forbid if mill=0 and not [lane=5 and stretch=11];");
        Check.due("28 POWER 0 at the last BERTH", x.plan(0, 3, 8, 11), 40);
        planned("the last BERTH", x, 71, 8);
        // MILL 0 ASHORE and MILL 1 at a BERTH is behind MILL 0 at a BERTH and MILL 1 ASHORE
        MillBoats y = PlanTest.river(2, 40, 40, 40, 40, 40, 40);
        Check.rules(y, 0, 0, "way 5 if 1=1;");
        Check.due("28 one alone may lie there", y.plan(0, 3, 2, 2), 40);
        planned("MILL 0 there", y, 2, -1);
    }

    /** A sum of 0 is a PLAN, no PLAN is NONE. */
    private static void sumOfNothing() {
        MillBoats x = new MillBoats();
        x.mill(1, 1, 1);
        Check.due("28 0", x.plan(0, 1, 0, 0), 0);
        Check.due("29 a PLAN", x.planned(0), 0);
        Check.due("30 a PLAN", x.moves(), 1);
        x.height(0, 0);
        Check.due("28 no DEPTH", x.plan(0, 1, 0, 0), 0);
        Check.due("29 ASHORE", x.planned(0), -1);
        Check.due("30 it is ASHORE", x.moves(), 0);
        Check.rules(x, 0, 0, "way 1 if 1=1;");
        Check.due("28 no WAY where nothing is deep", x.plan(0, 1, 0, 0), -1);
        Check.due("29 no PLAN", x.planned(0), -2);
        Check.due("30 no PLAN", x.moves(), -1);
        Check.due("31 no PLAN", x.move(0, 0), -1);
        Check.due("32 no PLAN", x.go(), -1);
    }

    /** "NONE: no such ones (the latest PLAN stays); none can be (there is no PLAN then)". */
    private static void latestPlan() {
        MillBoats x = PlanTest.river(3, 40, 30);
        x.plan(0, 5, 2, 2);
        int[][] wrong = {{-1, 5, 2, 2}, {1000, 5, 2, 2}, {0, 0, 2, 2}, {0, 8, 2, 2}, {0, 5, 3, 2}, {0, 5, 2, 6},
            {0, 5, -1, 2}, {0, 5, 11, 12}};
        for (int[] w : wrong) {
            Check.due("28 no such ones", x.plan(w[0], w[1], w[2], w[3]), -1);
            planned("the latest PLAN stays", x, 2, -2, 14);
            // 2 comes in beside 0, which lies at BERTH 2 then
            moves("the latest PLAN stays", x, 0, 1, 2, 3);
        }
        Check.due("28 another PLAN", x.plan(0, 2, 0, 0), 40);
        planned("that alone", x, -2, 0, -2);
        Check.rules(x, 0, 0, "way 6 if stretch=1;");
        x.moor(2, 1);
        Check.due("28 none can be", x.plan(0, 1, 0, 3), -1);
        planned("there is no PLAN then", x, -2, -2, -2);
        Check.due("28 no such ones", x.plan(0, 0, 0, 3), -1);
        planned("there is still none", x, -2, -2, -2);
        Check.due("30 none", x.moves(), -1);
        Check.due("32 none", x.go(), -1);
    }

    /** "from BERTH to BERTH that are side by side (LANE or STRETCH one more or less)": the rim is no bridge. */
    private static void sideBySide() {
        int[][] ways = {{0, 71, 16}, {71, 0, 16}, {11, 12, 12}, {12, 11, 12}, {60, 59, 12}, {5, 65, 5}, {65, 5, 5},
            {24, 35, 11}, {35, 24, 11}, {30, 31, 1}, {31, 30, 1}, {30, 42, 1}, {42, 30, 1}, {30, 43, 2}, {0, 61, 6}};
        for (int[] w : ways) {
            MillBoats x = PlanTest.river(1, 10, 10, 10, 10, 10, 10);
            Check.rules(x, 0, 0, "forbid if not 12*lane+stretch=" + w[1] + ";");
            Check.rules(x, 1, 0, "forbid if not 12*lane+stretch=" + w[1] + ";");
            Check.due("28 from " + w[0] + " to " + w[1], x.plan(0, 1, w[1] % 12, w[1] % 12), 10);
            x.moor(0, w[0]);
            moves("from " + w[0] + " to " + w[1], x, 0, w[2]);
            x.moor(0, -1);
            int lane = w[1] / 12;
            moves("in to " + w[1], x, 0, Math.min(lane, 5 - lane) + 1);
        }
    }

    /** "comes in .. goes out, at any BERTH of LANE 0 or 5", in any STRETCH. */
    private static void inAndOutAnywhere() {
        MillBoats x = PlanTest.river(1, 0, 0, 10);
        Check.due("28 LANE 2, STRETCH 6", x.plan(0, 1, 6, 6), 10);
        moves("LANE 0 beside it", x, 0, 3);
        for (int s = 0; s < 12; s++) {
            // LANES 0 and 5 are deep at their ends alone
            x.bed(s, s == 0 ? 0 : 5);
            x.bed(60 + s, s == 11 ? 0 : 5);
        }
        moves("in at BERTH 0: 1, 2 and 6 STEPS", x, 0, 9);
        x.bed(0, 5);
        moves("in at BERTH 71: 1, 3 and 5 STEPS", x, 0, 9);
        x.bed(71, 5);
        Check.due("30 nowhere to come in", x.moves(), -2);
        MillBoats y = PlanTest.river(1);
        Check.rules(y, 0, 0, "way 6 if stretch=6;");
        Check.due("28 to be ASHORE", y.plan(0, 1, 6, 6), 0);
        y.moor(0, 30);
        moves("out at BERTH 6", y, 0, 3);
        for (int s = 0; s < 12; s++) {
            y.bed(s, s == 11 ? 0 : 5);
            y.bed(60 + s, 5);
        }
        moves("out at BERTH 11", y, 0, 2 + 5 + 1);
        y.bed(11, 5);
        Check.due("30 nowhere to go out", y.moves(), -2);
        int[] rim = {0, 5, 11, 60, 66, 71};
        for (int b : rim) {
            y.moor(0, b);
            moves("out where it is, though it isn't deep", y, 0, 1);
        }
    }

    /** "of DEPTH its DRAUGHT or more ..; the BERTH where it begins aside". */
    private static void depthOnTheWay() {
        for (int bed = 2; bed <= 3; bed++) {
            MillBoats x = new MillBoats();
            x.point(0, 0, 10);
            x.point(6, 0, 10);
            x.mill(3, 20, 2000);
            Check.due("28 a PLAN", x.plan(0, 1, 4, 4), 10);
            x.moor(0, 0);
            x.bed(0, 5);
            x.bed(2, bed);
            // straight on if DEPTH 3 is there, else around
            moves("BED " + bed, x, 0, bed == 2 ? 4 : 6);
            x.bed(4, bed);
            if (bed == 2) {
                moves("its end is deep enough", x, 0, 4);
            } else {
                Check.due("30 its end isn't deep enough", x.moves(), -2);
            }
        }
        // one that lies there needs no DEPTH
        MillBoats y = PlanTest.river(1, 10);
        y.plan(0, 1, 4, 4);
        y.moor(0, 4);
        y.bed(4, 20);
        Check.due("30 it lies there", y.moves(), 0);
    }

    /** "(at the HEIGHT of the DAY at hand, as known then ..)". */
    private static void depthOfTheDayAtHand() {
        MillBoats x = PlanTest.river(0, 10);
        x.mill(4, 20, 2000);
        x.height(1, 3);
        x.height(2, 4);
        Check.due("28 for DAY 2", x.plan(2, 1, 0, 0), 10);
        moves("on DAY 0, HEIGHT 5", x, 0, 1);
        x.day();
        Check.due("30 on DAY 1, HEIGHT 3", x.moves(), -2);
        Check.due("31 none", x.move(0, 1), -1);
        Check.due("32 none", x.go(), -2);
        x.height(1, 4);
        moves("on DAY 1, HEIGHT 4 as known then", x, 0, 1);
        x.height(1, 3);
        x.day();
        moves("on DAY 2, HEIGHT 4", x, 0, 1);
    }

    /** "without other MILLS as they lie then". */
    private static void othersOnTheWay() {
        MillBoats x = PlanTest.river(6, 10, 10);
        Check.due("28 MILL 0", x.plan(0, 1, 0, 0), 10);
        x.moor(0, 4);
        moves("straight", x, 0, 4);
        x.moor(1, 2);
        moves("around one", x, 0, 6);
        x.moor(2, 14);
        moves("around two", x, 0, 8);
        x.moor(3, 26);
        x.moor(4, 38);
        x.moor(5, 50);
        moves("around five", x, 0, 4 + 10);
        x.moor(0, 2 + 60);
        moves("it ends the wall", x, 0, 2 + 5);
        x.moor(0, 64);
        x.moor(1, 0);
        Check.due("30 another one lies there", x.moves(), -2);
        // walled in by MILLS at the corner
        x.moor(1, 12);
        x.moor(2, 1);
        Check.due("30 walled off", x.moves(), -2);
        x.moor(0, -1);
        moves("in at the very BERTH", x, 0, 1);
    }

    /** The second MOVE is told by itself, from ASHORE or from a BERTH, behind one from elsewhere. */
    private static void stepsOfASecondMove() {
        MillBoats x = PlanTest.river(3, 50, 40, 30);
        Check.due("28 three", x.plan(0, 7, 6, 6), 120);
        planned("three", x, 6, 18, 30);
        x.moor(0, 42);
        // 0 from 42 to 6; then 1 in past it, as 6 is taken: in at 5 or 7, on to 17 or 19, to 18; then 2
        moves("the second from ASHORE", x, 0, 3, 1, 3, 2, 4);
        x.moor(0, -1);
        x.moor(1, 42);
        moves("the first from ASHORE", x, 0, 1, 1, 2, 2, 4);
        x.moor(2, 31);
        moves("none from there", x, 0, 1, 1, 2, 2, 1);
        x.moor(1, 19);
        x.moor(0, 7);
        moves("each one STEP", x, 0, 1, 1, 1, 2, 1);
    }

    /** "The order: of all in which each can go the first, compared MOVE by MOVE by MILLS." */
    private static void firstOrder() {
        MillBoats x = PlanTest.river(3, 50, 40, 30);
        x.plan(0, 7, 6, 6);
        // 2 lies where 1 is to lie, 1 where 0 is to lie
        x.moor(0, 0);
        x.moor(1, 6);
        x.moor(2, 18);
        moves("2, then 1, then 0", x, 2, 1, 1, 1, 0, 6);
        // 1 lies where 0 is to lie
        x.moor(1, -1);
        x.moor(2, -1);
        x.moor(1, 6);
        moves("1, then 0, then 2", x, 1, 1, 0, 6, 2, 4);
        // 2 lies where 1 is to lie, and 0 is where it is to lie
        x.moor(1, -1);
        x.moor(0, 6);
        x.moor(2, 18);
        moves("2, then 1", x, 2, 1, 1, 3);
        // 0 is to lie where 2 lies
        x.moor(2, -1);
        x.moor(0, -1);
        x.moor(2, 6);
        x.moor(1, 7);
        // 1 first: LANE 1 beside it; then 0 can't, as 2 lies there; then 2, which goes around 1
        moves("1, then 2, then 0", x, 1, 2, 2, 4, 0, 1);
    }

    /** "each once": two that lie where the other is to lie can't; one that isn't of the PLAN never goes. */
    private static void eachOnce() {
        MillBoats x = PlanTest.river(4, 50, 40, 30);
        x.plan(0, 7, 6, 6);
        x.moor(0, 18);
        x.moor(1, 6);
        Check.due("30 each at the other's", x.moves(), -2);
        Check.due("31 none", x.move(0, 0), -1);
        Check.due("32 none", x.go(), -2);
        x.moor(2, 0);
        x.moor(0, -1);
        x.moor(1, 30);
        x.moor(2, 18);
        x.moor(0, 6);
        Check.due("30 1 and 2 each at the other's", x.moves(), -2);
        x.moor(2, -1);
        x.moor(0, 18);
        x.moor(2, 6);
        Check.due("30 three round about", x.moves(), -2);
        x.moor(0, -1);
        moves("round about no more", x, 1, 1, 2, 4, 0, 1);
        x.moor(1, -1);
        x.moor(3, 30);
        x.moor(2, -1);
        Check.due("30 one that isn't of it lies there", x.moves(), -2);
        x.moor(3, 31);
        moves("beside it", x, 0, 1, 1, 3, 2, 4);
    }

    /** "-2: .. a MILL of it is GONE". */
    private static void goneFromThePlan() {
        MillBoats x = PlanTest.river(2, 0, 0, 0, 0, 0, 100);
        Check.due("28 a PLAN of both", x.plan(0, 3, 0, 0), 100);
        x.moor(1, 71);
        x.mill(1, 20, 1);
        x.moor(1, -1);
        x.moor(2, 71);
        x.day();
        Check.due("35 one is GONE", x.count(11), 1);
        Check.due("30 one that isn't of the PLAN", x.moves(), 2);
        Check.due("28 MILL 2 is GONE", x.plan(1, 4, 0, 0), -1);
        Check.due("28 MILL 2 is GONE, with others", x.plan(1, 7, 0, 0), -1);
        Check.due("30 the latest PLAN stays", x.moves(), 2);
        for (int gone = 0; gone < 2; gone++) {
            MillBoats y = PlanTest.river(0, 0, 0, 0, 0, 0, 100);
            y.mill(1, 20, gone == 0 ? 150 : 2000);
            y.mill(1, 20, gone == 1 ? 150 : 2000);
            Check.rules(y, 1, 0, "way 6 if stretch=0;");
            Check.due("28 both ASHORE", y.plan(0, 3, 0, 0), 0);
            planned("both ASHORE", y, -1, -1);
            y.moor(gone, 71);
            Check.due("30 one MOVE", y.moves(), 1);
            y.day();
            Check.due("33 it is GONE", y.millOf(gone, 0), -2);
            Check.due("30 a MILL of it is GONE", y.moves(), -2);
            Check.due("31 none", y.move(0, 0), -1);
            Check.due("32 none", y.go(), -2);
            Check.due("29 planned still", y.planned(gone), -1);
            Check.due("33 it stays GONE", y.millOf(gone, 0), -2);
        }
        // the first MILL GONE, asked for by bit 0
        MillBoats z = PlanTest.river(0, 0, 0, 0, 0, 0, 100);
        z.mill(1, 20, 1);
        z.mill(1, 20, 2000);
        z.moor(0, 71);
        z.day();
        Check.due("28 MILL 0 is GONE", z.plan(1, 1, 0, 0), -1);
        Check.due("28 MILL 0 is GONE, with another one", z.plan(1, 3, 0, 0), -1);
        Check.due("28 the other one alone", z.plan(1, 2, 0, 0), 100);
    }

    /** Those that another PLAN moved lie as they do. */
    private static void goesByTheLatestPlan() {
        MillBoats x = PlanTest.river(3, 50, 40, 30);
        x.plan(0, 7, 6, 6);
        Check.due("32 by the first PLAN", x.go(), 3);
        Check.due("28 another PLAN", x.plan(0, 1, 9, 9), 50 + 40 + 30);
        planned("MILL 0 alone", x, 9, -2, -2);
        x.moor(1, 40);
        x.moor(2, -1);
        moves("MILL 0 alone", x, 0, 3);
        Check.due("32 by the latest PLAN", x.go(), 1);
        Check.due("33 MILL 0", x.millOf(0, 0), 9);
        Check.due("33 MILL 1 stays", x.millOf(1, 0), 40);
        Check.due("33 MILL 2 stays", x.millOf(2, 0), -1);
        Check.due("32 none is left", x.go(), 0);
        Check.due("33 MILL 1 stays", x.millOf(1, 0), 40);
    }

    /** "The MOVES are done: how many (the PLAN stays)." */
    private static void goesAndStays() {
        MillBoats x = PlanTest.river(4, 50, 40, 30);
        x.plan(0, 7, 6, 6);
        x.moor(3, 40);
        for (int away = 0; away <= 3; away++) {
            for (int m = 0; m < 3; m++) {
                x.moor(m, -1);
            }
            for (int m = away; m < 3; m++) {
                x.moor(m, x.planned(m));
            }
            Check.due("30 MOVES", x.moves(), away);
            Check.due("32 that many are done", x.go(), away);
            for (int m = 0; m < 3; m++) {
                Check.due("33 where it is planned", x.millOf(m, 0), 6 + 12 * m);
            }
            Check.due("33 another one stays", x.millOf(3, 0), 40);
            planned("the PLAN stays", x, 6, 18, 30, -2);
            Check.due("30 none is left", x.moves(), 0);
            Check.due("32 none is left", x.go(), 0);
        }
    }
}
