import java.util.ArrayDeque;
import java.util.ArrayList;
import java.util.Arrays;
import java.util.Collections;
import java.util.HashMap;
import java.util.HashSet;
import java.util.LinkedHashMap;
import java.util.List;
import java.util.Map;
import java.util.NoSuchElementException;
import java.util.Set;
import java.util.TreeMap;
import java.util.function.ToLongFunction;

/** The document once more, written apart from the class, slow and plain: random runs are compared with it. */
final class Model {
    static final class Mill {
        int draught;
        int wheel;
        int chain;
        int berth = -1;
        int since;
        int ground;
        int tolls;
        int dressed = -1;
    }

    static final class Order {
        int shore;
        int sacks;
        int left;
        int tolls;
        int last = -1;
    }

    /** Something told on DAY at of DAY of. */
    static final class Told<T> {
        final int of;
        final int at;
        final T what;

        Told(int of, int at, T what) {
            this.of = of;
            this.at = at;
            this.what = what;
        }
    }

    final int[] beds = new int[72];
    final List<TreeMap<Integer, Integer>> tables = new ArrayList<>();
    final List<Mill> mills = new ArrayList<>();
    final List<Order> orders = new ArrayList<>();
    final List<Told<Integer>> heights = new ArrayList<>();
    final List<Told<Boolean>> ices = new ArrayList<>();
    final List<List<Told<ModelText>>> texts = List.of(new ArrayList<>(), new ArrayList<>());
    final List<Integer> tape = new ArrayList<>();
    final List<int[]> events = new ArrayList<>();
    final int[] skiffs = new int[2];
    int day = 0;
    int faultPlace = -1;
    Map<Integer, Integer> plan = null;

    Model() {
        for (int i = 0; i < 7; i++) {
            tables.add(new TreeMap<>());
        }
    }

    private static boolean in(int v, int low, int high) {
        return low <= v && v <= high;
    }

    boolean bed(int berth, int v) {
        if (in(berth, 0, 71) && in(v, 0, 20)) {
            beds[berth] = v;
            return true;
        }
        return false;
    }

    boolean point(int t, int x, int y) {
        if (!in(t, 0, 6) || !in(x, 0, 400) || !in(y, 0, 400)) {
            return false;
        }
        TreeMap<Integer, Integer> table = tables.get(t);
        if (!table.containsKey(x) && table.size() == 8) {
            return false;
        }
        table.put(x, y);
        return true;
    }

    int value(int t, int x) {
        if (!in(t, 0, 6)) {
            return -1;
        }
        TreeMap<Integer, Integer> table = tables.get(t);
        if (table.isEmpty()) {
            return 0;
        }
        Map.Entry<Integer, Integer> low = table.floorEntry(x);
        Map.Entry<Integer, Integer> high = table.ceilingEntry(x);
        if (low == null) {
            return high.getValue();
        }
        if (high == null || high.getKey().equals(low.getKey())) {
            return low.getValue();
        }
        int run = high.getKey() - low.getKey();
        // the mean of both ends by how far x is from each, rounded down, as all of it is 0 or more
        return (low.getValue() * (high.getKey() - x) + high.getValue() * (x - low.getKey())) / run;
    }

    int mill(int draught, int wheel, int chain) {
        if (!in(draught, 1, 9) || !in(wheel, 1, 90) || !in(chain, 1, 2000) || mills.size() == 6) {
            return -1;
        }
        Mill m = new Mill();
        m.draught = draught;
        m.wheel = wheel;
        m.chain = chain;
        mills.add(m);
        return mills.size() - 1;
    }

    private boolean isMill(int m) {
        return in(m, 0, mills.size() - 1);
    }

    private Mill at(int berth) {
        for (Mill m : mills) {
            if (m.berth == berth) {
                return m;
            }
        }
        return null;
    }

    int moor(int m, int berth) {
        if (!isMill(m) || !in(berth, -1, 71)) {
            return -1;
        }
        Mill mill = mills.get(m);
        if (mill.berth == -2) {
            return -2;
        }
        if (berth >= 0 && at(berth) != null && at(berth) != mill) {
            return -3;
        }
        mill.berth = berth;
        return 0;
    }

    boolean dress(int m) {
        if (!isMill(m) || mills.get(m).berth == -2 || mills.get(m).dressed == day) {
            return false;
        }
        mills.get(m).dressed = day;
        mills.get(m).since = 0;
        return true;
    }

    private int depth(int berth, int height) {
        return height > beds[berth] ? height - beds[berth] : 0;
    }

    private int flowOf(Mill mill, int height) {
        int lane = mill.berth / 12;
        int value = value(lane, height);
        int flow = value;
        for (int ahead = 1; ahead <= 3; ahead++) {
            if (mill.berth % 12 - ahead >= 0) {
                Mill other = at(mill.berth - ahead);
                if (other != null) {
                    flow -= value * other.wheel * (4 - ahead) / 400;
                }
            }
        }
        return flow < 0 ? 0 : flow;
    }

    private boolean floats(Mill mill, int height) {
        return mill.berth >= 0 && depth(mill.berth, height) >= mill.draught;
    }

    private int worn(Mill mill) {
        return mill.since >= 500 ? 100 : mill.since / 5;
    }

    private int powerOf(Mill mill, int height) {
        return floats(mill, height) ? value(6, flowOf(mill, height)) * (100 - worn(mill)) / 100 : 0;
    }

    private int pullOf(Mill mill, int height, boolean ice) {
        return floats(mill, height) ? flowOf(mill, height) * (20 + mill.wheel) / 20 * (ice ? 2 : 1) : 0;
    }

    private boolean lies(int m) {
        return isMill(m) && mills.get(m).berth >= 0;
    }

    int flow(int m, int height) {
        return lies(m) && in(height, 0, 20) ? flowOf(mills.get(m), height) : -1;
    }

    int power(int m, int height) {
        return lies(m) && in(height, 0, 20) ? powerOf(mills.get(m), height) : -1;
    }

    int pull(int m, int height, boolean ice) {
        return lies(m) && in(height, 0, 20) ? pullOf(mills.get(m), height, ice) : -1;
    }

    int loss(int m, int o, int height) {
        if (!lies(m) || !lies(o) || m == o || !in(height, 0, 20)) {
            return -1;
        }
        int with = powerOf(mills.get(m), height);
        int was = mills.get(o).berth;
        mills.get(o).berth = -1;
        int without = powerOf(mills.get(m), height);
        mills.get(o).berth = was;
        return without - with;
    }

    boolean height(int d, int h) {
        return in(d, 0, 999) && in(h, 0, 20) && heights.size() < 200 && heights.add(new Told<>(d, day, h));
    }

    boolean ice(int d, boolean is) {
        return in(d, 0, 999) && ices.size() < 200 && ices.add(new Told<>(d, day, is));
    }

    private static <T> T lastOf(List<Told<T>> told, int of, int k) {
        T last = null;
        for (Told<T> t : told) {
            if (t.of == of && t.at <= k) {
                last = t.what;
            }
        }
        return last;
    }

    private static <T> T lastUpTo(List<Told<T>> told, int d, int k) {
        for (int of = d; of >= 0; of--) {
            T last = lastOf(told, of, k);
            if (last != null) {
                return last;
            }
        }
        return null;
    }

    private int knownHeight(int d, int k) {
        Integer h = lastUpTo(heights, d, k);
        return h == null ? 5 : h;
    }

    private boolean knownIce(int d, int k) {
        return Boolean.TRUE.equals(lastOf(ices, d, k));
    }

    int heightOf(int d, int k) {
        return in(d, 0, 999) && in(k, 0, day) ? knownHeight(d, k) : -1;
    }

    int iceOf(int d, int k) {
        return in(d, 0, 999) && in(k, 0, day) ? (knownIce(d, k) ? 1 : 0) : -1;
    }

    int feed(int a, int b, int c, int d, int e) {
        if (tape.size() > 380) {
            return -1;
        }
        for (int n : new int[] {a, b, c, d, e}) {
            tape.add(n >>> 24);
            tape.add(n >> 16 & 255);
            tape.add(n >> 8 & 255);
            tape.add(n & 255);
        }
        return tape.size();
    }

    int end(int n) {
        if (!in(n, 0, tape.size())) {
            return -1;
        }
        tape.subList(n, tape.size()).clear();
        return n;
    }

    int rules(int shore, int from) {
        if (!in(shore, 0, 1) || !in(from, 0, 999) || texts.get(shore).size() == 12) {
            return -1;
        }
        StringBuilder text = new StringBuilder();
        for (int b : tape) {
            text.append((char) b);
        }
        tape.clear();
        try {
            ModelText read = new ModelText(text.toString());
            texts.get(shore).add(new Told<>(from, day, read));
            faultPlace = -1;
            return read.rules.size();
        } catch (ModelText.Fault fault) {
            faultPlace = fault.place;
            return -1 - fault.kind;
        }
    }

    int place() {
        return faultPlace;
    }

    private Map<String, Long> scene(int m, int berth, int d, int k, int sacks) {
        Map<String, Long> scene = new HashMap<>();
        long height = knownHeight(d, k);
        scene.put("lane", (long) (berth / 12));
        scene.put("stretch", (long) (berth % 12));
        scene.put("height", height);
        scene.put("depth", (long) depth(berth, (int) height));
        scene.put("day", (long) d);
        scene.put("mill", (long) m);
        scene.put("draught", (long) mills.get(m).draught);
        scene.put("wheel", (long) mills.get(m).wheel);
        scene.put("sacks", (long) sacks);
        return scene;
    }

    private int ruleOf(int shore, int d, int k, Map<String, Long> scene, String... kinds) {
        ModelText text = lastUpTo(texts.get(shore), d, k);
        return text == null ? -1 : text.last(scene, Arrays.asList(kinds));
    }

    private boolean hasSay(int shore, int berth) {
        return shore == 0 ? berth / 12 <= 3 : berth / 12 >= 2;
    }

    private String wordOf(int shore, int m, int berth, int d, int k) {
        int rule = ruleOf(shore, d, k, scene(m, berth, d, k, 0), "forbid", "allow");
        return rule < 0 ? "none" : lastUpTo(texts.get(shore), d, k).rules.get(rule).kind;
    }

    private int bars(int m, int berth, int d, int k) {
        String zero = hasSay(0, berth) ? wordOf(0, m, berth, d, k) : "none";
        String one = hasSay(1, berth) ? wordOf(1, m, berth, d, k) : "none";
        Set<String> both = new HashSet<>(Arrays.asList(zero, one));
        int bits = zero.equals("forbid") ? 1 : 0;
        bits |= one.equals("forbid") ? 2 : 0;
        bits |= both.equals(new HashSet<>(Arrays.asList("forbid", "allow"))) ? 4 : 0;
        return bits;
    }

    int barred(int m, int berth, int d, int k) {
        return isMill(m) && in(berth, 0, 71) && in(d, 0, 999) && in(k, 0, day) ? bars(m, berth, d, k) : -1;
    }

    int word(int shore, int m, int berth, int d, int k) {
        if (!in(shore, 0, 1) || !isMill(m) || !in(berth, 0, 71) || !in(d, 0, 999) || !in(k, 0, day)) {
            return -1;
        }
        return ruleOf(shore, d, k, scene(m, berth, d, k, 0), "forbid", "allow");
    }

    private int wayOf(int stretch, int d, int k) {
        Map<String, Long> scene = new HashMap<>();
        for (String name : ModelText.GIVEN) {
            scene.put(name, 0L);
        }
        scene.put("stretch", (long) stretch);
        scene.put("height", (long) knownHeight(d, k));
        scene.put("day", (long) d);
        int most = 0;
        for (int shore = 0; shore < 2; shore++) {
            int rule = ruleOf(shore, d, k, new HashMap<>(scene), "way");
            if (rule >= 0) {
                most = Math.max(most, lastUpTo(texts.get(shore), d, k).rules.get(rule).first);
            }
        }
        return most;
    }

    int way(int stretch, int d, int k) {
        return in(stretch, 0, 11) && in(d, 0, 999) && in(k, 0, day) ? wayOf(stretch, d, k) : -1;
    }

    private boolean isKept(int stretch, int d, int k) {
        StringBuilder lanes = new StringBuilder();
        for (int lane = 0; lane < 6; lane++) {
            int berth = lane * 12 + stretch;
            lanes.append(at(berth) == null && depth(berth, knownHeight(d, k)) >= 2 ? 'o' : 'x');
        }
        return lanes.indexOf("o".repeat(wayOf(stretch, d, k))) >= 0;
    }

    int kept(int stretch) {
        return in(stretch, 0, 11) ? (isKept(stretch, day, day) ? 1 : 0) : -1;
    }

    boolean skiffs(int shore, int n) {
        if (!in(shore, 0, 1) || !in(n, 0, 20)) {
            return false;
        }
        skiffs[shore] = n;
        return true;
    }

    int order(int shore, int sacks) {
        if (!in(shore, 0, 1) || !in(sacks, 1, 500) || orders.size() == 60) {
            return -1;
        }
        Order o = new Order();
        o.shore = shore;
        o.sacks = sacks;
        o.left = sacks;
        orders.add(o);
        return orders.size() - 1;
    }

    private void tell(int which, int m, int other, int berth) {
        if (events.size() < 300) {
            events.add(new int[] {day, which, m, other, berth});
        }
    }

    int day() {
        if (day == 999) {
            return -1;
        }
        for (int m = 0; m < mills.size(); m++) {
            Mill mill = mills.get(m);
            int pull = pullOf(mill, knownHeight(day, day), knownIce(day, day));
            if (mill.berth >= 0 && pull > mill.chain) {
                tell(1, m, -1, mill.berth);
                drift(mill, pull);
            }
        }
        int[] rows = {30 * skiffs[0], 30 * skiffs[1]};
        for (int turn = 0; turn < mills.size(); turn++) {
            grind((day + turn) % mills.size(), rows);
        }
        day++;
        return day;
    }

    private void drift(Mill mill, int pull) {
        int m = mills.indexOf(mill);
        int height = knownHeight(day, day);
        if (mill.berth % 12 == 11) {
            mill.berth = -2;
            tell(5, m, -1, -1);
            return;
        }
        List<Integer> lanes = new ArrayList<>();
        for (int lane : new int[] {mill.berth / 12, mill.berth / 12 - 1, mill.berth / 12 + 1}) {
            if (in(lane, 0, 5) && depth(lane * 12 + mill.berth % 12 + 1, height) >= mill.draught) {
                lanes.add(lane);
            }
        }
        if (lanes.isEmpty()) {
            tell(4, m, -1, mill.berth);
            return;
        }
        // the sort leaves those of one VALUE in their order
        lanes.sort((a, b) -> value(b, height) - value(a, height));
        int next = lanes.get(0) * 12 + mill.berth % 12 + 1;
        Mill other = at(next);
        if (other != null) {
            int own = pullOf(other, height, knownIce(day, day));
            if (own + pull > other.chain) {
                tell(2, mills.indexOf(other), m, next);
                drift(other, own);
            }
        }
        if (at(next) != null) {
            tell(3, m, mills.indexOf(at(next)), mill.berth);
            return;
        }
        mill.berth = next;
        drift(mill, pull);
    }

    private void grind(int m, int[] rows) {
        Mill mill = mills.get(m);
        if (mill.berth < 0 || mill.dressed == day || (bars(m, mill.berth, day, day) & 3) != 0) {
            return;
        }
        int power = powerOf(mill, knownHeight(day, day));
        for (Order o : orders) {
            int cost = 1 + Math.abs(mill.berth / 12 - (o.shore == 0 ? 0 : 5));
            int n = 0;
            while (o.left > 0 && power > 0 && rows[o.shore] >= cost) {
                o.left--;
                power--;
                rows[o.shore] -= cost;
                n++;
            }
            if (n > 0) {
                int toll = toll(n, o, m, mill.berth);
                mill.tolls += toll;
                o.tolls += toll;
                mill.since += n;
                mill.ground += n;
                if (o.left == 0) {
                    o.last = day;
                }
            }
        }
    }

    private int toll(int n, Order o, int m, int berth) {
        int rule = ruleOf(o.shore, day, day, scene(m, berth, day, day, o.sacks), "toll");
        if (rule < 0) {
            return n / 16;
        }
        ModelText.Rule toll = lastUpTo(texts.get(o.shore), day, day).rules.get(rule);
        return n * toll.first / toll.second;
    }

    int event(int k, int what) {
        return in(k, 0, events.size() - 1) && in(what, 0, 4) ? events.get(k)[what] : -1;
    }

    private int bestSum;
    private Map<Integer, Integer> best;

    int plan(int d, int bits, int from, int to) {
        if (!in(d, day, 999) || !in(from, 0, 11) || !in(to, from, 11) || to - from > 3) {
            return -1;
        }
        List<Integer> who = new ArrayList<>();
        for (int m = 0; m < 32; m++) {
            if ((bits >>> m & 1) == 1) {
                if (!isMill(m) || mills.get(m).berth == -2) {
                    return -1;
                }
                who.add(m);
            }
        }
        if (who.isEmpty() || who.size() > 3) {
            return -1;
        }
        int[] were = new int[mills.size()];
        for (int m = 0; m < mills.size(); m++) {
            were[m] = mills.get(m).berth;
        }
        who.forEach(m -> mills.get(m).berth = -1);
        bestSum = -1;
        best = null;
        tryAll(who, new LinkedHashMap<>(), d, from, to);
        for (int m = 0; m < mills.size(); m++) {
            mills.get(m).berth = were[m];
        }
        plan = best;
        return bestSum;
    }

    private final Map<Long, Boolean> barredAt = new HashMap<>();

    private void tryAll(List<Integer> who, Map<Integer, Integer> where, int d, int from, int to) {
        if (where.isEmpty()) {
            barredAt.clear();
        }
        if (where.size() == who.size()) {
            weigh(where, d, from, to);
            return;
        }
        int m = who.get(where.size());
        List<Integer> berths = new ArrayList<>();
        for (int berth = 0; berth < 72; berth++) {
            if (in(berth % 12, from, to)) {
                berths.add(berth);
            }
        }
        berths.add(-1);
        for (int berth : berths) {
            if (berth == -1 || at(berth) == null) {
                mills.get(m).berth = berth;
                where.put(m, berth);
                tryAll(who, where, d, from, to);
                where.remove(m);
                mills.get(m).berth = -1;
            }
        }
    }

    private void weigh(Map<Integer, Integer> where, int d, int from, int to) {
        int height = knownHeight(d, day);
        for (int m : where.keySet()) {
            Mill mill = mills.get(m);
            if (mill.berth >= 0) {
                boolean barred = barredAt.computeIfAbsent(m * 100L + mill.berth,
                        key -> (bars(m, mill.berth, d, day) & 3) != 0);
                if (!floats(mill, height) || barred || pullOf(mill, height, knownIce(d, day)) > mill.chain) {
                    return;
                }
            }
        }
        int sum = mills.stream().mapToInt(mill -> powerOf(mill, height)).sum();
        if (sum <= bestSum) {
            return;
        }
        for (int s = from; s <= to; s++) {
            if (!isKept(s, d, day)) {
                return;
            }
        }
        bestSum = sum;
        best = new LinkedHashMap<>(where);
    }

    int planned(int m) {
        return plan == null || !plan.containsKey(m) ? -2 : plan.get(m);
    }

    /** The MOVES, each a MILL and its STEPS; null if there is no such order. */
    private List<int[]> order() {
        List<Integer> left = new ArrayList<>();
        for (int m : plan.keySet()) {
            if (mills.get(m).berth == -2) {
                return null;
            }
            if (mills.get(m).berth != plan.get(m)) {
                left.add(m);
            }
        }
        List<List<Integer>> all = new ArrayList<>();
        permute(left, new ArrayList<>(), all);
        int[] were = mills.stream().mapToInt(mill -> mill.berth).toArray();
        for (List<Integer> one : all) {
            List<int[]> done = new ArrayList<>();
            for (int m : one) {
                int steps = steps(mills.get(m), plan.get(m));
                if (steps < 0) {
                    break;
                }
                mills.get(m).berth = plan.get(m);
                done.add(new int[] {m, steps});
            }
            for (int m = 0; m < were.length; m++) {
                mills.get(m).berth = were[m];
            }
            if (done.size() == left.size()) {
                return done;
            }
        }
        return null;
    }

    private static void permute(List<Integer> left, List<Integer> begun, List<List<Integer>> all) {
        if (left.isEmpty()) {
            all.add(new ArrayList<>(begun));
        }
        for (Integer m : left) {
            List<Integer> rest = new ArrayList<>(left);
            rest.remove(m);
            begun.add(m);
            permute(rest, begun, all);
            begun.remove(m);
        }
    }

    /** The shore is a place too, -1, side by side with the BERTHS of LANES 0 and 5. */
    private int steps(Mill mill, int target) {
        int height = knownHeight(day, day);
        Map<Integer, Integer> far = new HashMap<>();
        ArrayDeque<Integer> queue = new ArrayDeque<>(Collections.singletonList(mill.berth));
        far.put(mill.berth, 0);
        while (!queue.isEmpty()) {
            int here = queue.remove();
            if (here == target) {
                return far.get(here);
            }
            if (here == -1 && far.get(here) > 0) {
                continue;
            }
            for (int next = -1; next < 72; next++) {
                boolean can = sideBySide(here, next) && !far.containsKey(next)
                        && (next == -1 || at(next) == null && depth(next, height) >= mill.draught);
                if (can) {
                    far.put(next, far.get(here) + 1);
                    queue.add(next);
                }
            }
        }
        return -1;
    }

    private static boolean sideBySide(int a, int b) {
        if (a == -1 || b == -1) {
            int berth = Math.max(a, b);
            return a != b && (berth / 12 == 0 || berth / 12 == 5);
        }
        return Math.abs(a / 12 - b / 12) + Math.abs(a % 12 - b % 12) == 1;
    }

    int moves() {
        if (plan == null) {
            return -1;
        }
        List<int[]> order = order();
        return order == null ? -2 : order.size();
    }

    int move(int k, int what) {
        if (moves() < 0 || !in(k, 0, moves() - 1) || !in(what, 0, 1)) {
            return -1;
        }
        return order().get(k)[what];
    }

    int go() {
        int n = moves();
        if (n > 0) {
            for (int[] move : order()) {
                mills.get(move[0]).berth = plan.get(move[0]);
            }
        }
        return n;
    }

    int millOf(int m, int what) {
        if (!isMill(m) || !in(what, 0, 7)) {
            throw new NoSuchElementException();
        }
        Mill mill = mills.get(m);
        return new int[] {mill.berth, mill.draught, mill.wheel, mill.chain, worn(mill), mill.ground, mill.tolls,
            mill.dressed == day ? 1 : 0}[what];
    }

    int orderOf(int o, int what) {
        if (!in(o, 0, orders.size() - 1) || !in(what, 0, 4)) {
            return -1;
        }
        Order order = orders.get(o);
        return new int[] {order.shore, order.sacks, order.left, order.tolls, order.last}[what];
    }

    private static <T> int sum(List<T> of, ToLongFunction<T> what) {
        return (int) of.stream().mapToLong(what).sum();
    }

    int count(int what) {
        if (!in(what, 0, 11)) {
            return -1;
        }
        return new int[] {mills.size(), orders.size(), day, events.size(), tape.size(), texts.get(0).size(),
            texts.get(1).size(), sum(orders, o -> o.left), sum(mills, m -> m.ground), sum(orders, o -> o.tolls),
            sum(mills, m -> m.berth >= 0 ? 1 : 0), sum(mills, m -> m.berth == -2 ? 1 : 0)}[what];
    }
}
