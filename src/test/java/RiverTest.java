/** Promises 1 to 11: a new object, BEDS, TABLES and MILLS. */
public final class RiverTest {
    private RiverTest() {
    }

    public static void main(String[] args) {
        newObject();
        beds();
        points();
        values();
        mills();
        moor();
        dress();
        flow();
        power();
        pull();
        loss();
        Check.finish();
    }

    private static void newObject() {
        MillBoats x = new MillBoats();
        Check.due("NONE", MillBoats.NONE, -1);
        for (int what = 0; what <= 11; what++) {
            Check.due("1 count(" + what + ")", x.count(what), 0);
        }
        for (int t = 0; t < 7; t++) {
            Check.due("1 value(" + t + ", 100)", x.value(t, 100), 0);
        }
        Check.due("1 heightOf", x.heightOf(999, 0), 5);
        Check.due("1 iceOf", x.iceOf(0, 0), 0);
        Check.due("1 place", x.place(), -1);
        Check.due("1 planned", x.planned(0), -2);
        Check.due("1 moves", x.moves(), -1);
        Check.due("1 go", x.go(), -1);
        Check.due("1 move", x.move(0, 0), -1);
        Check.due("1 event", x.event(0, 0), -1);
        Check.due("1 orderOf", x.orderOf(0, 0), -1);
        Check.due("1 way", x.way(0, 0, 0), 0);
        Check.due("1 kept", x.kept(0), 1);
        Check.due("1 end", x.end(1), -1);
        Check.dueNoMill(x, 0, 0);
        MillBoats other = new MillBoats();
        x.bed(0, 5);
        x.point(0, 1, 9);
        Check.due("1 objects are apart", other.value(0, 1), 0);
    }

    private static void beds() {
        MillBoats x = new MillBoats();
        Check.due("2 bed(0, 0)", x.bed(0, 0), true);
        Check.due("2 bed(71, 20)", x.bed(71, 20), true);
        Check.due("2 bed(72, 1)", x.bed(72, 1), false);
        Check.due("2 bed(-1, 1)", x.bed(-1, 1), false);
        Check.due("2 bed(3, 21)", x.bed(3, 21), false);
        Check.due("2 bed(3, -1)", x.bed(3, -1), false);
        Check.due("2 bed(MAX, 1)", x.bed(Integer.MAX_VALUE, 1), false);
        x.point(0, 0, 40);
        x.point(6, 0, 9);
        x.mill(3, 10, 100);
        x.moor(0, 3);
        Check.due("2 a BED is 0 at first", x.power(0, 3), 9);
        Check.due("2 bed(3, 7)", x.bed(3, 7), true);
        Check.due("2 DEPTH is HEIGHT less BED", x.power(0, 10), 9);
        Check.due("2 DEPTH too little", x.power(0, 9), 0);
        Check.due("2 DEPTH is 0 at least", x.power(0, 0), 0);
        Check.due("2 another BED stays", x.bed(4, 20), true);
        Check.due("2 bed(3, 7) stays", x.power(0, 10), 9);
    }

    private static void points() {
        MillBoats x = new MillBoats();
        Check.due("3 table -1", x.point(-1, 0, 0), false);
        Check.due("3 table 7", x.point(7, 0, 0), false);
        Check.due("3 x -1", x.point(0, -1, 0), false);
        Check.due("3 x 401", x.point(0, 401, 0), false);
        Check.due("3 y -1", x.point(0, 0, -1), false);
        Check.due("3 y 401", x.point(0, 0, 401), false);
        Check.due("3 nothing was told", x.value(0, 0), 0);
        Check.due("3 (400, 400)", x.point(0, 400, 400), true);
        Check.due("3 (0, 0)", x.point(0, 0, 0), true);
        for (int i = 1; i <= 6; i++) {
            Check.due("3 point " + i, x.point(0, 50 * i, i), true);
        }
        Check.due("3 a ninth", x.point(0, 1, 1), false);
        Check.due("3 a ninth is not there", x.value(0, 1), 0);
        Check.due("3 another y of one", x.point(0, 400, 300), true);
        Check.due("3 the other y", x.value(0, 400), 300);
        Check.due("3 another y of the first", x.point(0, 0, 7), true);
        Check.due("3 the other y of the first", x.value(0, 0), 7);
        Check.due("3 other numbers with eight", x.point(0, 400, 401), false);
        Check.due("3 table 6", x.point(6, 3, 4), true);
        Check.due("3 table 6 value", x.value(6, 3), 4);
        Check.due("3 table 5 has none", x.value(5, 3), 0);
    }

    private static void values() {
        MillBoats x = new MillBoats();
        Check.due("4 table -1", x.value(-1, 0), -1);
        Check.due("4 table 7", x.value(7, 0), -1);
        Check.due("4 no POINTS", x.value(3, 9), 0);
        x.point(3, 20, 10);
        Check.due("4 one POINT ahead", x.value(3, Integer.MIN_VALUE), 10);
        Check.due("4 one POINT behind", x.value(3, Integer.MAX_VALUE), 10);
        x.point(3, 10, 20);
        x.point(3, 13, 27);
        Check.due("4 ahead of all", x.value(3, 9), 20);
        Check.due("4 at the first", x.value(3, 10), 20);
        Check.due("4 rises, rounded down", x.value(3, 11), 22);
        Check.due("4 rises, rounded down later", x.value(3, 12), 24);
        Check.due("4 at the middle", x.value(3, 13), 27);
        Check.due("4 falls, rounded down", x.value(3, 14), 24);
        Check.due("4 falls, rounded down later", x.value(3, 19), 12);
        Check.due("4 at the last", x.value(3, 20), 10);
        Check.due("4 behind all", x.value(3, 21), 10);
        x.point(4, 0, 400);
        x.point(4, 400, 0);
        Check.due("4 wide", x.value(4, 399), 1);
        Check.due("4 x above 400", x.value(4, 1000), 0);
    }

    private static void mills() {
        MillBoats x = new MillBoats();
        int[][] wrong = {{0, 1, 1}, {10, 1, 1}, {1, 0, 1}, {1, 91, 1}, {1, 1, 0}, {1, 1, 2001}, {-1, -1, -1}};
        for (int[] w : wrong) {
            Check.due("5 mill(" + w[0] + ", " + w[1] + ", " + w[2] + ")", x.mill(w[0], w[1], w[2]), -1);
        }
        Check.due("5 none came", x.count(0), 0);
        Check.due("5 the least", x.mill(1, 1, 1), 0);
        Check.due("5 the most", x.mill(9, 90, 2000), 1);
        Check.due("5 ASHORE", x.millOf(1, 0), -1);
        Check.due("5 DRAUGHT", x.millOf(1, 1), 9);
        Check.due("5 WHEEL", x.millOf(1, 2), 90);
        Check.due("5 CHAIN", x.millOf(1, 3), 2000);
        for (int m = 2; m < 6; m++) {
            Check.due("5 mill " + m, x.mill(2, 3, 4), m);
        }
        Check.due("5 a seventh", x.mill(2, 3, 4), -1);
        Check.due("5 six are there", x.count(0), 6);
    }

    private static void moor() {
        MillBoats x = new MillBoats();
        Check.due("6 no such MILL", x.moor(0, 0), -1);
        x.mill(1, 1, 1);
        x.mill(1, 1, 1);
        Check.due("6 MILL -1", x.moor(-1, 0), -1);
        Check.due("6 MILL 2", x.moor(2, 0), -1);
        Check.due("6 BERTH 72", x.moor(0, 72), -1);
        Check.due("6 BERTH -2", x.moor(0, -2), -1);
        Check.due("6 laid", x.moor(0, 71), 0);
        Check.due("6 where", x.millOf(0, 0), 71);
        Check.due("6 laid where it lies", x.moor(0, 71), 0);
        Check.due("6 another one lies there", x.moor(1, 71), -3);
        Check.due("6 it stays ASHORE", x.millOf(1, 0), -1);
        Check.due("6 another one elsewhere", x.moor(1, 0), 0);
        Check.due("6 onto another one", x.moor(0, 0), -3);
        Check.due("6 it stays", x.millOf(0, 0), 71);
        Check.due("6 ASHORE", x.moor(0, -1), 0);
        Check.due("6 is ASHORE", x.millOf(0, 0), -1);
        Check.due("6 two ASHORE", x.moor(1, -1), 0);
        Check.due("6 the BERTH is free", x.moor(1, 71), 0);
        MillBoats y = gone();
        Check.due("6 GONE", y.moor(0, 3), -2);
        Check.due("6 GONE, ASHORE", y.moor(0, -1), -2);
        Check.due("6 GONE, where another one lies", y.moor(0, 5), -2);
        Check.due("6 GONE, no such BERTH", y.moor(0, 72), -1);
        Check.due("6 stays GONE", y.millOf(0, 0), -2);
    }

    /** MILL 0 is GONE, MILL 1 lies at BERTH 5 of LANE 0, HEIGHT 5, DAY 1. */
    private static MillBoats gone() {
        MillBoats x = new MillBoats();
        x.point(5, 0, 100);
        x.mill(1, 20, 1);
        x.mill(1, 20, 1);
        x.moor(0, 71);
        x.moor(1, 5);
        x.day();
        return x;
    }

    private static void dress() {
        MillBoats x = new MillBoats();
        Check.due("7 no such MILL", x.dress(0), false);
        x.mill(1, 1, 1);
        Check.due("7 MILL -1", x.dress(-1), false);
        Check.due("7 MILL 1", x.dress(1), false);
        Check.due("7 not yet", x.millOf(0, 7), 0);
        Check.due("7 DRESSED", x.dress(0), true);
        Check.due("7 is DRESSED", x.millOf(0, 7), 1);
        Check.due("7 so already", x.dress(0), false);
        x.day();
        Check.due("7 another DAY", x.millOf(0, 7), 0);
        Check.due("7 again on another DAY", x.dress(0), true);
        Check.due("7 GONE", gone().dress(0), false);
        wears(x);
    }

    private static void wears(MillBoats x) {
        x.point(0, 0, 40);
        x.point(6, 0, 100);
        x.moor(0, 0);
        x.skiffs(0, 20);
        x.order(0, 500);
        x.mill(1, 1, 100);
        x.moor(1, 12);
        x.moor(0, -1);
        x.point(1, 0, 40);
        x.day();
        Check.due("7 ground", x.millOf(1, 5), 100);
        Check.due("7 WORN", x.millOf(1, 4), 20);
        Check.due("7 POWER when WORN", x.power(1, 5), 80);
        Check.due("7 DRESSED", x.dress(1), true);
        Check.due("7 not WORN", x.millOf(1, 4), 0);
        Check.due("7 POWER when DRESSED", x.power(1, 5), 100);
        x.day();
        Check.due("7 one that is DRESSED grinds nothing", x.millOf(1, 5), 100);
        x.day();
        Check.due("7 and then it does", x.millOf(1, 5), 200);
    }

    /** LANE 0 flows 100 at any HEIGHT, POWER is half of FLOW up to 200; MILLS of WHEEL 20, 50, 90. */
    private static MillBoats three() {
        MillBoats x = new MillBoats();
        x.point(0, 0, 101);
        x.point(1, 0, 60);
        x.point(6, 0, 0);
        x.point(6, 200, 100);
        x.mill(2, 20, 2000);
        x.mill(2, 50, 2000);
        x.mill(2, 90, 2000);
        return x;
    }

    private static void flow() {
        MillBoats x = three();
        Check.due("8 ASHORE", x.flow(0, 5), -1);
        Check.due("8 no such MILL", x.flow(3, 5), -1);
        Check.due("8 MILL -1", x.flow(-1, 5), -1);
        x.moor(0, 0);
        Check.due("8 HEIGHT -1", x.flow(0, -1), -1);
        Check.due("8 HEIGHT 21", x.flow(0, 21), -1);
        Check.due("8 HEIGHT 0", x.flow(0, 0), 101);
        Check.due("8 HEIGHT 20", x.flow(0, 20), 101);
        int[] shadowed = {0, 86, 91, 96, 101};
        for (int s = 1; s <= 4; s++) {
            x.moor(1, s);
            Check.due("8 behind by " + s, x.flow(1, 5), shadowed[s]);
            Check.due("8 the one ahead", x.flow(0, 5), 101);
        }
        x.moor(1, 13);
        Check.due("8 in another LANE", x.flow(1, 5), 60);
        x.moor(1, 1);
        x.moor(2, 3);
        Check.due("8 two SHADOWS, each rounded down", x.flow(2, 5), 101 - 5 - 25);
        x.moor(1, 3 + 12);
        x.moor(2, 2 + 12);
        Check.due("8 by the WHEEL of the one ahead", x.flow(1, 5), 60 - 40);
        x.moor(0, 12);
        Check.due("8 the same from two ahead", x.flow(1, 5), 60 - 40 - 3);
        Check.due("8 the last of LANE 0 is not ahead of LANE 1", lastOfLane(), 60);
        Check.due("8 0 at least", drowned(), 0);
        Check.due("8 GONE", gone().flow(0, 5), -1);
    }

    private static long lastOfLane() {
        MillBoats x = three();
        x.moor(0, 11);
        x.moor(1, 12);
        return x.flow(1, 5);
    }

    private static long drowned() {
        MillBoats x = new MillBoats();
        x.point(0, 0, 400);
        for (int m = 0; m < 4; m++) {
            x.mill(1, 90, 1);
            x.moor(m, m);
        }
        return x.flow(3, 5);
    }

    private static void power() {
        MillBoats x = three();
        Check.due("9 ASHORE", x.power(0, 5), -1);
        Check.due("9 no such MILL", x.power(3, 5), -1);
        x.moor(0, 0);
        Check.due("9 HEIGHT 21", x.power(0, 21), -1);
        Check.due("9 HEIGHT -1", x.power(0, -1), -1);
        Check.due("9 POWER by FLOW, rounded down", x.power(0, 5), 50);
        Check.due("9 FLOATS", x.power(0, 2), 50);
        Check.due("9 doesn't FLOAT", x.power(0, 1), 0);
        x.moor(1, 1);
        Check.due("9 in the SHADOW", x.power(1, 5), 43);
        x.skiffs(0, 20);
        x.order(0, 53);
        x.moor(1, -1);
        x.day();
        Check.due("9 WORN is rounded down", x.millOf(0, 4), 10);
        Check.due("9 less by WORN", x.power(0, 5), 45);
        x.point(6, 200, 102);
        Check.due("9 POWER less by WORN, rounded down", x.power(0, 5), 45);
        Check.due("9 GONE", gone().power(0, 5), -1);
        wornOut();
    }

    private static void wornOut() {
        MillBoats x = new MillBoats();
        x.point(6, 0, 400);
        x.mill(1, 1, 1);
        x.moor(0, 0);
        x.skiffs(0, 20);
        x.order(0, 500);
        x.order(0, 500);
        x.day();
        Check.due("9 WORN 80", x.millOf(0, 4), 80);
        Check.due("9 POWER at 80", x.power(0, 5), 80);
        x.day();
        Check.due("9 WORN 96", x.millOf(0, 4), 96);
        Check.due("9 POWER at 96", x.power(0, 5), 16);
        x.day();
        Check.due("9 WORN 99", x.millOf(0, 4), 99);
        Check.due("9 POWER at 99", x.power(0, 5), 4);
        x.day();
        Check.due("9 WORN 100", x.millOf(0, 4), 100);
        Check.due("9 POWER at 100", x.power(0, 5), 0);
    }

    private static void pull() {
        MillBoats x = three();
        Check.due("10 ASHORE", x.pull(0, 5, false), -1);
        Check.due("10 no such MILL", x.pull(3, 5, true), -1);
        x.moor(1, 0);
        Check.due("10 HEIGHT 21", x.pull(1, 21, true), -1);
        Check.due("10 HEIGHT -1", x.pull(1, -1, false), -1);
        Check.due("10 without ICE", x.pull(1, 5, false), 353);
        Check.due("10 with ICE, rounded down once", x.pull(1, 5, true), 706);
        Check.due("10 FLOATS", x.pull(1, 2, false), 353);
        Check.due("10 doesn't FLOAT", x.pull(1, 1, true), 0);
        x.moor(0, 1);
        Check.due("10 in the SHADOW", x.pull(0, 5, false), (101 - 37) * 2);
        Check.due("10 GONE", gone().pull(0, 5, false), -1);
    }

    private static void loss() {
        MillBoats x = three();
        x.moor(0, 0);
        Check.due("11 the other one is ASHORE", x.loss(0, 1, 5), -1);
        Check.due("11 it is ASHORE", x.loss(1, 0, 5), -1);
        x.moor(1, 1);
        Check.due("11 both are one", x.loss(0, 0, 5), -1);
        Check.due("11 no such MILL", x.loss(3, 0, 5), -1);
        Check.due("11 no such other", x.loss(0, 3, 5), -1);
        Check.due("11 other -1", x.loss(0, -1, 5), -1);
        Check.due("11 HEIGHT 21", x.loss(1, 0, 21), -1);
        Check.due("11 HEIGHT -1", x.loss(1, 0, -1), -1);
        Check.due("11 LOSS", x.loss(1, 0, 5), 7);
        Check.due("11 none by one behind", x.loss(0, 1, 5), 0);
        Check.due("11 it still lies there", x.millOf(0, 0), 0);
        Check.due("11 neither FLOATS", x.loss(1, 0, 1), 0);
        x.point(6, 90, 90);
        x.point(6, 101, 20);
        Check.due("11 below 0", x.loss(1, 0, 5), 20 - 86);
    }
}
