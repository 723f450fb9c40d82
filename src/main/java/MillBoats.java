import java.util.Arrays;
import java.util.NoSuchElementException;

/** A river of mills on boats. The promises of each public call stand in ../shared/DOC.md. */
public final class MillBoats {
    public static final int NONE = -1;

    private static final int GONE = -2;
    private static final int TAKEN = -3;
    private static final int NOT_PLANNED = -2;
    private static final int NO_ORDER = -2;

    private static final int LANES = 6;
    private static final int STRETCHES = 12;
    private static final int BERTHS = LANES * STRETCHES;
    private static final int TOP_HEIGHT = 20;
    private static final int FIRST_HEIGHT = 5;
    private static final int LAST_DAY = 999;
    private static final int TABLES = 7;
    private static final int POWER_TABLE = 6;
    private static final int MILLS = 6;
    private static final int SHORES = 2;
    private static final int TAPE = 400;
    private static final int FED = 20;
    private static final int TOP_SKIFFS = 20;
    private static final int PLAN_MILLS = 3;
    private static final int PLAN_STRETCHES = 4;

    // the kinds of RULES, which are also the tokens that begin them
    private static final int LET = 256;
    private static final int FORBID = 257;
    private static final int ALLOW = 258;
    private static final int TOLL = 259;
    private static final int OF = 260;
    private static final int WAY = 261;
    private static final int IF = 262;
    private static final int OR = 263;
    private static final int AND = 264;
    private static final int NOT = 265;

    private final River river;
    private final Law law;
    private final Drift drift;
    private final Grist grist;
    private final Planner planner;
    private final Mover mover;
    private final int[] tape;
    private int tapeSize;
    private int today;

    public MillBoats() {
        river = new River();
        law = new Law(river);
        drift = new Drift(river);
        grist = new Grist(river, law);
        planner = new Planner(river, law);
        mover = new Mover(river, planner);
        tape = new int[TAPE];
    }

    public boolean bed(int berth, int v) {
        if (!isBerth(berth) || !isHeight(v)) {
            return false;
        }
        river.beds[berth] = v;
        return true;
    }

    public boolean point(int table, int x, int y) {
        if (table < 0 || table >= TABLES) {
            return false;
        }
        return river.tables[table].put(x, y);
    }

    public int value(int table, int x) {
        if (table < 0 || table >= TABLES) {
            return NONE;
        }
        return river.tables[table].at(x);
    }

    public int mill(int draught, int wheel, int chain) {
        if (draught < 1 || draught > 9 || wheel < 1 || wheel > 90 || chain < 1 || chain > 2000) {
            return NONE;
        }
        return river.launch(draught, wheel, chain);
    }

    public int moor(int mill, int berth) {
        if (!river.has(mill) || !(berth == NONE || isBerth(berth))) {
            return NONE;
        }
        if (river.lies[mill] == GONE) {
            return GONE;
        }
        if (berth != NONE) {
            int there = river.lyingAt(berth, river.lies);
            if (there != NONE && there != mill) {
                return TAKEN;
            }
        }
        river.lies[mill] = berth;
        return 0;
    }

    public boolean dress(int mill) {
        if (!river.has(mill) || river.lies[mill] == GONE) {
            return false;
        }
        return river.boats[mill].dressOn(today);
    }

    public int flow(int mill, int height) {
        if (!river.liesAtBerth(mill) || !isHeight(height)) {
            return NONE;
        }
        return river.flowMet(mill, river.lies, height);
    }

    public int power(int mill, int height) {
        if (!river.liesAtBerth(mill) || !isHeight(height)) {
            return NONE;
        }
        return river.powerHad(mill, river.lies, height);
    }

    public int pull(int mill, int height, boolean ice) {
        if (!river.liesAtBerth(mill) || !isHeight(height)) {
            return NONE;
        }
        return river.pullBorne(mill, river.lies, height, ice);
    }

    public int loss(int mill, int other, int height) {
        if (mill == other || !river.liesAtBerth(mill) || !river.liesAtBerth(other) || !isHeight(height)) {
            return NONE;
        }
        int with = river.powerHad(mill, river.lies, height);
        return river.powerWithout(mill, other, height) - with;
    }

    public boolean height(int day, int height) {
        return isDay(day) && isHeight(height) && law.heights.tell(day, height, today);
    }

    public boolean ice(int day, boolean is) {
        return isDay(day) && law.ices.tell(day, is ? 1 : 0, today);
    }

    public int heightOf(int d, int k) {
        if (!isDay(d) || !isKnownDay(k)) {
            return NONE;
        }
        return law.heights.latestOr(d, k, FIRST_HEIGHT);
    }

    public int iceOf(int d, int k) {
        if (!isDay(d) || !isKnownDay(k)) {
            return NONE;
        }
        return law.ices.exactOr(d, k, 0);
    }

    public int feed(int a, int b, int c, int d, int e) {
        if (tapeSize + FED > TAPE) {
            return NONE;
        }
        addBytes(a);
        addBytes(b);
        addBytes(c);
        addBytes(d);
        addBytes(e);
        return tapeSize;
    }

    public int end(int n) {
        if (n < 0 || n > tapeSize) {
            return NONE;
        }
        tapeSize = n;
        return n;
    }

    public int rules(int shore, int from) {
        if (!isShore(shore) || !isDay(from) || law.isFull(shore)) {
            return NONE;
        }
        int fault = law.reader.read(tape, tapeSize);
        tapeSize = 0;
        return fault == 0 ? law.keep(shore, from, today) : -1 - fault;
    }

    public int place() {
        return law.reader.faultPlace;
    }

    public int barred(int mill, int berth, int d, int k) {
        if (!river.has(mill) || !isBerth(berth) || !isDay(d) || !isKnownDay(k)) {
            return NONE;
        }
        return law.standing(mill, berth, d, k);
    }

    public int word(int shore, int mill, int berth, int d, int k) {
        if (!isShore(shore) || !river.has(mill) || !isBerth(berth) || !isDay(d) || !isKnownDay(k)) {
            return NONE;
        }
        return law.wordRule(shore, mill, berth, d, k);
    }

    public int way(int stretch, int d, int k) {
        if (!isStretch(stretch) || !isDay(d) || !isKnownDay(k)) {
            return NONE;
        }
        return law.wayOn(stretch, d, k);
    }

    public int kept(int stretch) {
        if (!isStretch(stretch)) {
            return NONE;
        }
        int wanted = law.wayOn(stretch, today, today);
        return river.isOpen(stretch, wanted, river.lies, heightToday()) ? 1 : 0;
    }

    public boolean skiffs(int shore, int n) {
        if (!isShore(shore) || n < 0 || n > TOP_SKIFFS) {
            return false;
        }
        grist.skiffs[shore] = n;
        return true;
    }

    public int order(int shore, int sacks) {
        if (!isShore(shore) || sacks < 1 || sacks > 500) {
            return NONE;
        }
        return grist.take(shore, sacks);
    }

    public int day() {
        if (today >= LAST_DAY) {
            return NONE;
        }
        int height = heightToday();
        drift.breakChains(today, height, law.ices.exactOr(today, today, 0) == 1);
        grist.grindDay(today, height);
        today++;
        return today;
    }

    public int event(int k, int what) {
        return drift.told(k, what);
    }

    public int plan(int day, int mills, int from, int to) {
        if (day < today || day > LAST_DAY || !isStretch(from) || !isStretch(to)) {
            return NONE;
        }
        if (from > to || to - from >= PLAN_STRETCHES || !river.canPlan(mills)) {
            return NONE;
        }
        return planner.search(day, today, mills, from, to);
    }

    public int planned(int mill) {
        return planner.has(mill) ? planner.berths[mill] : NOT_PLANNED;
    }

    public int moves() {
        return mover.find(heightToday());
    }

    public int move(int k, int what) {
        int found = mover.find(heightToday());
        if (k < 0 || k >= found || k >= PLAN_MILLS) {
            return NONE;
        }
        return what == 0 ? mover.movers[k] : what == 1 ? mover.steps[k] : NONE;
    }

    public int go() {
        int found = mover.find(heightToday());
        for (int k = 0; k < found && k < PLAN_MILLS; k++) {
            int m = mover.movers[k];
            if (river.has(m)) {
                river.lies[m] = planner.berths[m];
            }
        }
        return found;
    }

    public int millOf(int mill, int what) throws NoSuchElementException {
        if (!river.has(mill) || what < 0 || what > 7) {
            throw new NoSuchElementException("no such mill or nothing of that kind");
        }
        Boat boat = river.boats[mill];
        switch (what) {
            case 0:
                return river.lies[mill];
            case 1:
                return boat.draught;
            case 2:
                return boat.wheel;
            case 3:
                return boat.chain;
            case 4:
                return boat.worn();
            case 5:
                return boat.ground;
            case 6:
                return boat.tolls;
            default:
                return boat.dressedOn == today ? 1 : 0;
        }
    }

    public int orderOf(int order, int what) {
        return grist.told(order, what);
    }

    public int count(int what) {
        switch (what) {
            case 0:
                return river.size;
            case 1:
                return grist.size;
            case 2:
                return today;
            case 3:
                return drift.size;
            case 4:
                return tapeSize;
            case 5:
                return law.textsOf(0);
            case 6:
                return law.textsOf(1);
            case 7:
                return grist.sacksLeft();
            case 8:
                return river.sacksGround();
            case 9:
                return river.tollsTaken();
            case 10:
                return river.lyingAtBerths();
            case 11:
                return river.goneBoats();
            default:
                return NONE;
        }
    }

    private int heightToday() {
        return law.heights.latestOr(today, today, FIRST_HEIGHT);
    }

    private void addBytes(int number) {
        for (int shift = 24; shift >= 0 && tapeSize < TAPE; shift -= 8) {
            tape[tapeSize] = (number >>> shift) & 255;
            tapeSize++;
        }
    }

    private boolean isKnownDay(int k) {
        return k >= 0 && k <= today;
    }

    private static boolean isDay(int d) {
        return d >= 0 && d <= LAST_DAY;
    }

    private static boolean isHeight(int h) {
        return h >= 0 && h <= TOP_HEIGHT;
    }

    private static boolean isShore(int s) {
        return s >= 0 && s < SHORES;
    }

    private static boolean isStretch(int s) {
        return s >= 0 && s < STRETCHES;
    }

    private static boolean isBerth(int b) {
        return b >= 0 && b < BERTHS;
    }

    private static int laneOf(int berth) {
        return berth / STRETCHES;
    }

    private static int stretchOf(int berth) {
        return berth % STRETCHES;
    }

    /** A TABLE: its POINTS by rising x. */
    private static final class Table {
        private static final int MOST = 8;
        private static final int TOP = 400;

        private final int[] xs = new int[MOST];
        private final int[] ys = new int[MOST];
        private int size;

        boolean put(int x, int y) {
            if (x < 0 || x > TOP || y < 0 || y > TOP) {
                return false;
            }
            int i = 0;
            while (i < size && xs[i] < x) {
                i++;
            }
            if (i < size && xs[i] == x) {
                ys[i] = y;
                return true;
            }
            if (size >= MOST) {
                return false;
            }
            for (int j = size; j > i; j--) {
                xs[j] = xs[j - 1];
                ys[j] = ys[j - 1];
            }
            xs[i] = x;
            ys[i] = y;
            size++;
            return true;
        }

        int at(int x) {
            if (size == 0) {
                return 0;
            }
            if (x <= xs[0]) {
                return ys[0];
            }
            int i = 1;
            while (i < size && xs[i] < x) {
                i++;
            }
            if (i >= size) {
                return ys[size - 1];
            }
            int run = xs[i] - xs[i - 1];
            if (run <= 0) {
                return ys[i];
            }
            int rise = ys[i] - ys[i - 1];
            return ys[i - 1] + Math.floorDiv(rise * (x - xs[i - 1]), run);
        }

        /** The greatest VALUE from 0 to x. */
        int topUpTo(int x) {
            int top = Math.max(at(0), at(x));
            for (int i = 0; i < size && xs[i] <= x; i++) {
                top = Math.max(top, ys[i]);
            }
            return top;
        }
    }

    /** What a MILL is and has done; where it lies is kept by the River. */
    private static final class Boat {
        private int draught;
        private int wheel;
        private int chain;
        private int sinceDressed;
        private int ground;
        private int tolls;
        private int dressedOn = NONE;

        int worn() {
            return Math.min(100, sinceDressed / 5);
        }

        boolean dressOn(int day) {
            if (dressedOn == day) {
                return false;
            }
            dressedOn = day;
            sinceDressed = 0;
            return true;
        }

        void grindSacks(int sacks, int toll) {
            sinceDressed += sacks;
            ground += sacks;
            tolls += toll;
        }
    }

    /** BEDS, TABLES and MILLS. Where MILLS lie is an argument, so that a PLAN can try other places. */
    private static final class River {
        private final int[] beds = new int[BERTHS];
        private final Table[] tables = new Table[TABLES];
        private final Boat[] boats = new Boat[MILLS];
        private final int[] lies = new int[MILLS];
        private final int[] without = new int[MILLS];
        private int size;

        River() {
            for (int t = 0; t < TABLES; t++) {
                tables[t] = new Table();
            }
            for (int m = 0; m < MILLS; m++) {
                boats[m] = new Boat();
            }
            Arrays.fill(lies, NONE);
        }

        boolean has(int m) {
            return m >= 0 && m < size;
        }

        boolean liesAtBerth(int m) {
            return has(m) && lies[m] >= 0;
        }

        int launch(int draught, int wheel, int chain) {
            if (size >= MILLS) {
                return NONE;
            }
            Boat boat = boats[size];
            boat.draught = draught;
            boat.wheel = wheel;
            boat.chain = chain;
            size++;
            return size - 1;
        }

        int lyingAt(int berth, int[] at) {
            for (int m = 0; m < size; m++) {
                if (at[m] == berth) {
                    return m;
                }
            }
            return NONE;
        }

        int depth(int berth, int height) {
            int deep = height - beds[berth];
            return deep < 0 ? 0 : deep;
        }

        boolean bears(int berth, int m, int height) {
            return depth(berth, height) >= boats[m].draught;
        }

        int flowMet(int m, int[] at, int height) {
            int berth = at[m];
            if (!isBerth(berth)) {
                return 0;
            }
            int value = tables[laneOf(berth)].at(height);
            int met = value;
            for (int o = 0; o < size; o++) {
                met -= shadow(value, boats[o].wheel, at[o], berth);
            }
            return Math.max(0, met);
        }

        private static int shadow(int value, int wheel, int upper, int berth) {
            int ahead = berth - upper;
            if (upper < 0 || laneOf(upper) != laneOf(berth) || ahead < 1 || ahead > 3) {
                return 0;
            }
            return value * wheel * (4 - ahead) / 400;
        }

        int powerHad(int m, int[] at, int height) {
            if (!isBerth(at[m]) || !bears(at[m], m, height)) {
                return 0;
            }
            return tables[POWER_TABLE].at(flowMet(m, at, height)) * (100 - boats[m].worn()) / 100;
        }

        /** What POWER can't be above, whatever other MILLS come to lie ahead. */
        int topPower(int m, int[] at, int height) {
            if (!isBerth(at[m]) || !bears(at[m], m, height)) {
                return 0;
            }
            int top = tables[POWER_TABLE].topUpTo(flowMet(m, at, height));
            return top * (100 - boats[m].worn()) / 100;
        }

        int powerWithout(int m, int other, int height) {
            System.arraycopy(lies, 0, without, 0, MILLS);
            without[other] = NONE;
            return powerHad(m, without, height);
        }

        int pullBorne(int m, int[] at, int height, boolean ice) {
            if (!isBerth(at[m]) || !bears(at[m], m, height)) {
                return 0;
            }
            int once = flowMet(m, at, height) * (20 + boats[m].wheel) / 20;
            return ice ? 2 * once : once;
        }

        /** Whether so many LANES side by side are free of MILLS and deep enough in a STRETCH. */
        boolean isOpen(int stretch, int wanted, int[] at, int height) {
            int row = 0;
            for (int lane = 0; lane < LANES && row < wanted; lane++) {
                int berth = lane * STRETCHES + stretch;
                boolean open = depth(berth, height) >= 2 && lyingAt(berth, at) == NONE;
                row = open ? row + 1 : 0;
            }
            return row >= wanted;
        }

        /** Whether bits name 1 to 3 MILLS that there are and that are not GONE. */
        boolean canPlan(int bits) {
            int named = Integer.bitCount(bits);
            if (bits < 0 || bits >= 1 << size || named < 1 || named > PLAN_MILLS) {
                return false;
            }
            for (int m = 0; m < size; m++) {
                if ((bits >> m & 1) == 1 && lies[m] == GONE) {
                    return false;
                }
            }
            return true;
        }

        int sacksGround() {
            int sum = 0;
            for (int m = 0; m < size; m++) {
                sum += boats[m].ground;
            }
            return sum;
        }

        int tollsTaken() {
            int sum = 0;
            for (int m = 0; m < size; m++) {
                sum += boats[m].tolls;
            }
            return sum;
        }

        int lyingAtBerths() {
            int sum = 0;
            for (int m = 0; m < size; m++) {
                sum += lies[m] >= 0 ? 1 : 0;
            }
            return sum;
        }

        int goneBoats() {
            int sum = 0;
            for (int m = 0; m < size; m++) {
                sum += lies[m] == GONE ? 1 : 0;
            }
            return sum;
        }
    }

    /** What was told of DAYS, in two times: of which DAY, and on which DAY it was told. */
    private static final class Book {
        private final int[] days;
        private final int[] toldOn;
        private final int[] values;
        private int size;

        Book(int most) {
            int length = Math.max(0, most);
            days = new int[length];
            toldOn = new int[length];
            values = new int[length];
        }

        boolean tell(int day, int value, int now) {
            if (size >= days.length) {
                return false;
            }
            days[size] = day;
            toldOn[size] = now;
            values[size] = value;
            size++;
            return true;
        }

        /** Which line was told last, by DAY k, of the latest DAY up to d; NONE without one. */
        int latest(int d, int k) {
            int found = NONE;
            for (int i = 0; i < size; i++) {
                if (toldOn[i] <= k && days[i] <= d && (found < 0 || days[i] >= days[found])) {
                    found = i;
                }
            }
            return found;
        }

        int latestOr(int d, int k, int otherwise) {
            int found = latest(d, k);
            return found < 0 ? otherwise : values[found];
        }

        int exactOr(int d, int k, int otherwise) {
            int found = latest(d, k);
            return found < 0 || days[found] != d ? otherwise : values[found];
        }
    }

    /**
     * The RULES of a TEXT. The SUMS and CONDS are kept as code for a stack, so that working them out
     * needs no recursion and no objects.
     */
    private static final class Text {
        private static final int RULES = 20;
        // what is above all numbers stands for a NAME, what is below 0 for what is done
        private static final int NAMES_FROM = 10000;
        private static final int ADD = -1;
        private static final int SUBTRACT = -2;
        private static final int MULTIPLY = -3;
        private static final int LESS = -4;
        private static final int MORE = -5;
        private static final int SAME = -6;
        private static final int NEGATE = -7;
        private static final int BOTH = -8;
        private static final int EITHER = -9;

        private final int[] code;
        private final int[] kinds;
        private final int[] codeEnds;
        private final int[] firsts;
        private final int[] seconds;
        private int codeSize;
        private int size;

        Text(int mostCode, int mostRules) {
            int codes = Math.max(0, mostCode);
            int rules = Math.max(0, mostRules);
            code = new int[codes];
            kinds = new int[rules];
            codeEnds = new int[rules];
            firsts = new int[rules];
            seconds = new int[rules];
        }

        void clear() {
            codeSize = 0;
            size = 0;
        }

        void emit(int step) {
            if (codeSize < code.length) {
                code[codeSize] = step;
                codeSize++;
            }
        }

        void close(int kind, int first, int second) {
            if (size < kinds.length) {
                kinds[size] = kind;
                firsts[size] = first;
                seconds[size] = second;
                codeEnds[size] = codeSize;
                size++;
            }
        }

        Text copy() {
            Text text = new Text(codeSize, size);
            System.arraycopy(code, 0, text.code, 0, codeSize);
            System.arraycopy(kinds, 0, text.kinds, 0, size);
            System.arraycopy(codeEnds, 0, text.codeEnds, 0, size);
            System.arraycopy(firsts, 0, text.firsts, 0, size);
            System.arraycopy(seconds, 0, text.seconds, 0, size);
            text.codeSize = codeSize;
            text.size = size;
            return text;
        }
    }

    /** Reads the TAPE into TOKENS, and these into a draft of a TEXT, up to the first FAULT. */
    private static final class Reader {
        private static final int END = -1;
        private static final int BAD = -2;
        private static final int NUMBER = -3;
        private static final int NAME = -4;
        private static final int GIVEN = 9;
        private static final int LETS = 6;
        private static final int BRACKETS = 4;
        private static final int WORD_LETTERS = 8;
        private static final int NUMBER_FIGURES = 4;

        private final int[] kinds = new int[TAPE + 1];
        private final int[] places = new int[TAPE + 1];
        private final long[] values = new long[TAPE + 1];
        private final long[] keywords = new long[NOT - LET + 1];
        private final long[] names = new long[GIVEN + LETS];
        private final Text draft = new Text(TAPE, Text.RULES);
        private int tokens;
        private int at;
        private int kind;
        private int lets;
        private int open;
        private int fault;
        private int faultPlace = NONE;

        Reader() {
            spell("let forbid allow toll of way if or and not ", keywords);
            spell("lane stretch height depth day mill draught wheel sacks ", names);
        }

        private static void spell(String words, long[] into) {
            int n = 0;
            for (int i = 0; i < words.length(); i++) {
                if (words.charAt(i) == ' ') {
                    n++;
                } else if (n < into.length) {
                    into[n] = withLetter(into[n], words.charAt(i));
                }
            }
        }

        /** Words of up to eight letters are numbers here, as texts would have to be made for each. */
        private static long withLetter(long word, int letter) {
            return word * 32 + (letter - 'a' + 1);
        }

        /** The kind of the first FAULT, 0 without one: then the draft is the TEXT. */
        int read(int[] tape, int length) {
            split(tape, Math.min(length, Math.min(tape.length, TAPE)));
            draft.clear();
            lets = 0;
            open = 0;
            fault = 0;
            faultPlace = NONE;
            at = 0;
            kind = kinds[0];
            boolean fine = true;
            for (int i = 0; i <= Text.RULES && fine && kind != END; i++) {
                fine = rule();
            }
            return fault;
        }

        private void split(int[] tape, int length) {
            tokens = 0;
            int i = 0;
            // each token is a byte or more, so that there are never more of them than bytes
            for (int n = 0; n < TAPE && i < length; n++) {
                int b = tape[i];
                if (isLetter(b)) {
                    i = splitWord(tape, i, length);
                } else if (isFigure(b)) {
                    i = splitNumber(tape, i, length);
                } else {
                    if (b != 32 && b != 10) {
                        addToken(b, i, 0);
                    }
                    i++;
                }
            }
            addToken(END, length, 0);
        }

        private int splitWord(int[] tape, int from, int length) {
            long word = 0;
            int i = from;
            while (i < length && isLetter(tape[i])) {
                word = withLetter(word, tape[i]);
                i++;
            }
            int found = i - from > WORD_LETTERS ? BAD : NAME;
            for (int w = 0; found == NAME && w < keywords.length; w++) {
                if (keywords[w] == word) {
                    found = LET + w;
                }
            }
            addToken(found, from, word);
            return i;
        }

        private int splitNumber(int[] tape, int from, int length) {
            long number = 0;
            int i = from;
            while (i < length && isFigure(tape[i])) {
                number = number * 10 + (tape[i] - '0');
                i++;
            }
            addToken(i - from > NUMBER_FIGURES ? BAD : NUMBER, from, number);
            return i;
        }

        private static boolean isLetter(int b) {
            return b >= 'a' && b <= 'z';
        }

        private static boolean isFigure(int b) {
            return b >= '0' && b <= '9';
        }

        private void addToken(int found, int place, long value) {
            if (tokens < kinds.length) {
                kinds[tokens] = found;
                places[tokens] = place;
                values[tokens] = value;
                tokens++;
            }
        }

        private void step() {
            if (at < tokens - 1 && at < kinds.length - 1) {
                at++;
                kind = kinds[at];
            }
        }

        private boolean refuse(int why) {
            fault = why;
            faultPlace = at >= 0 && at < places.length ? places[at] : NONE;
            return false;
        }

        private boolean take(int wanted) {
            if (kind != wanted) {
                return refuse(1);
            }
            step();
            return true;
        }

        /** The value of the token at hand: its number, or its word as one. */
        private long valueHere() {
            return at >= 0 && at < values.length ? values[at] : 0;
        }

        private boolean rule() {
            int begun = kind;
            if (begun != LET && begun != FORBID && begun != ALLOW && begun != TOLL && begun != WAY) {
                return refuse(1);
            }
            if (draft.size >= Text.RULES) {
                return refuse(4);
            }
            step();
            switch (begun) {
                case LET:
                    return letRule();
                case TOLL:
                    return tollRule();
                case WAY:
                    return wayRule();
                default:
                    return take(IF) && cond() && closeRule(begun, 0, 0);
            }
        }

        private boolean closeRule(int begun, int first, int second) {
            draft.close(begun, first, second);
            return take(';');
        }

        private boolean letRule() {
            if (kind != NAME) {
                return refuse(1);
            }
            long name = valueHere();
            if (known(name) != NONE) {
                return refuse(3);
            }
            if (lets >= LETS) {
                return refuse(4);
            }
            step();
            if (!take('=') || !sum()) {
                return false;
            }
            // only now, as its own SUM does not have it
            int slot = GIVEN + lets;
            names[slot] = name;
            lets++;
            return closeRule(LET, slot, 0);
        }

        private boolean tollRule() {
            int first = (int) valueHere();
            if (!take(NUMBER) || !take(OF)) {
                return false;
            }
            int second = (int) valueHere();
            if (kind == NUMBER && (second == 0 || second < first)) {
                return refuse(2);
            }
            return take(NUMBER) && take(IF) && cond() && closeRule(TOLL, first, second);
        }

        private boolean wayRule() {
            int wanted = (int) valueHere();
            if (kind == NUMBER && wanted > LANES) {
                return refuse(2);
            }
            return take(NUMBER) && take(IF) && cond() && closeRule(WAY, wanted, 0);
        }

        private boolean cond() {
            if (!both()) {
                return false;
            }
            for (int i = 0; i < TAPE && kind == OR; i++) {
                step();
                if (!both()) {
                    return false;
                }
                draft.emit(Text.EITHER);
            }
            return true;
        }

        private boolean both() {
            if (!part()) {
                return false;
            }
            for (int i = 0; i < TAPE && kind == AND; i++) {
                step();
                if (!part()) {
                    return false;
                }
                draft.emit(Text.BOTH);
            }
            return true;
        }

        private boolean part() {
            boolean negated = false;
            for (int i = 0; i < TAPE && kind == NOT; i++) {
                negated = !negated;
                step();
            }
            if (!(kind == '[' ? bracketedCond() : comparison())) {
                return false;
            }
            if (negated) {
                draft.emit(Text.NEGATE);
            }
            return true;
        }

        private boolean bracketedCond() {
            if (open >= BRACKETS) {
                return refuse(4);
            }
            open++;
            step();
            if (!cond()) {
                return false;
            }
            if (kind != ']') {
                return refuse(1);
            }
            open--;
            step();
            return true;
        }

        private boolean comparison() {
            if (!sum()) {
                return false;
            }
            int sign = kind;
            if (sign != '<' && sign != '>' && sign != '=') {
                return refuse(1);
            }
            step();
            if (!sum()) {
                return false;
            }
            draft.emit(sign == '<' ? Text.LESS : sign == '>' ? Text.MORE : Text.SAME);
            return true;
        }

        private boolean sum() {
            if (!product()) {
                return false;
            }
            for (int i = 0; i < TAPE && (kind == '+' || kind == '-'); i++) {
                int done = kind == '+' ? Text.ADD : Text.SUBTRACT;
                step();
                if (!product()) {
                    return false;
                }
                draft.emit(done);
            }
            return true;
        }

        private boolean product() {
            if (!factor()) {
                return false;
            }
            for (int i = 0; i < TAPE && kind == '*'; i++) {
                step();
                if (!factor()) {
                    return false;
                }
                draft.emit(Text.MULTIPLY);
            }
            return true;
        }

        private boolean factor() {
            if (kind == '(') {
                return bracketedSum();
            }
            if (kind == NUMBER) {
                draft.emit((int) valueHere());
                step();
                return true;
            }
            if (kind != NAME) {
                return refuse(1);
            }
            int slot = known(valueHere());
            if (slot == NONE) {
                return refuse(3);
            }
            draft.emit(Text.NAMES_FROM + slot);
            step();
            return true;
        }

        private boolean bracketedSum() {
            if (open >= BRACKETS) {
                return refuse(4);
            }
            open++;
            step();
            if (!sum()) {
                return false;
            }
            if (kind != ')') {
                return refuse(1);
            }
            open--;
            step();
            return true;
        }

        private int known(long name) {
            for (int i = 0; i < GIVEN + lets && i < names.length; i++) {
                if (names[i] == name) {
                    return i;
                }
            }
            return NONE;
        }
    }

    /** The BOOKS: HEIGHT, ICE and the RULES of both SHORES, and what these say. */
    private static final class Law {
        private static final int TOLD = 200;
        private static final int TEXTS = 12;
        private static final int BOUND = 1000000000;
        private static final int PLAIN_TOLL = 16;
        // where in what is given each NAME stands
        private static final int LANE = 0;
        private static final int STRETCH = 1;
        private static final int HEIGHT = 2;
        private static final int DEPTH = 3;
        private static final int DAY = 4;
        private static final int MILL = 5;
        private static final int DRAUGHT = 6;
        private static final int WHEEL = 7;
        private static final int SACKS = 8;

        private final River river;
        private final Book heights = new Book(TOLD);
        private final Book ices = new Book(TOLD);
        private final Book[] books = new Book[SHORES];
        private final Text[] texts = new Text[SHORES * TEXTS];
        private final Reader reader = new Reader();
        private final int[] given = new int[Reader.GIVEN + Reader.LETS];
        // four brackets and the signs between them leave at most some thirty values waiting
        private final int[] stack = new int[64];

        Law(River river) {
            this.river = river;
            for (int s = 0; s < SHORES; s++) {
                books[s] = new Book(TEXTS);
            }
        }

        boolean isFull(int shore) {
            return books[shore].size >= TEXTS;
        }

        int textsOf(int shore) {
            return books[shore].size;
        }

        /** Takes what was read last as a TEXT of a SHORE: how many RULES. */
        int keep(int shore, int from, int now) {
            int slot = shore * TEXTS + books[shore].size;
            if (slot < texts.length && books[shore].tell(from, slot, now)) {
                texts[slot] = reader.draft.copy();
            }
            return reader.draft.size;
        }

        /** The TEXT in force on DAY d as known on DAY k, or null. */
        private Text inForce(int shore, int d, int k) {
            int slot = books[shore].latestOr(d, k, NONE);
            return slot < 0 || slot >= texts.length ? null : texts[slot];
        }

        private void giveBoat(int m, int berth, int d, int k) {
            int height = heights.latestOr(d, k, FIRST_HEIGHT);
            Boat boat = river.boats[m];
            given[LANE] = laneOf(berth);
            given[STRETCH] = stretchOf(berth);
            given[HEIGHT] = height;
            given[DEPTH] = river.depth(berth, height);
            given[DAY] = d;
            given[MILL] = m;
            given[DRAUGHT] = boat.draught;
            given[WHEEL] = boat.wheel;
            given[SACKS] = 0;
        }

        private void giveStretch(int stretch, int d, int k) {
            Arrays.fill(given, 0);
            given[STRETCH] = stretch;
            given[HEIGHT] = heights.latestOr(d, k, FIRST_HEIGHT);
            given[DAY] = d;
        }

        int wordRule(int shore, int m, int berth, int d, int k) {
            giveBoat(m, berth, d, k);
            return lastHolding(inForce(shore, d, k), FORBID, ALLOW);
        }

        /** BARRED by SHORE 0, by SHORE 1, and whether they QUARREL, as bits. */
        int standing(int m, int berth, int d, int k) {
            giveBoat(m, berth, d, k);
            int lane = laneOf(berth);
            int left = lane <= 3 ? wordKind(inForce(0, d, k)) : NONE;
            int right = lane >= 2 ? wordKind(inForce(1, d, k)) : NONE;
            int bits = (left == FORBID ? 1 : 0) + (right == FORBID ? 2 : 0);
            boolean quarrel = left == FORBID && right == ALLOW || left == ALLOW && right == FORBID;
            return quarrel ? bits + 4 : bits;
        }

        private int wordKind(Text text) {
            int rule = lastHolding(text, FORBID, ALLOW);
            return text == null || rule < 0 ? NONE : text.kinds[rule];
        }

        int wayOn(int stretch, int d, int k) {
            giveStretch(stretch, d, k);
            int wanted = 0;
            for (int s = 0; s < SHORES; s++) {
                Text text = inForce(s, d, k);
                int rule = lastHolding(text, WAY, WAY);
                if (text != null && rule >= 0) {
                    wanted = Math.max(wanted, text.firsts[rule]);
                }
            }
            return wanted;
        }

        /** TOLL of some SACKS of an ORDER (of so many in all) of a SHORE that a MILL grinds on a DAY. */
        int tollFor(int some, int shore, int all, int m, int berth, int day) {
            giveBoat(m, berth, day, day);
            given[SACKS] = all;
            Text text = inForce(shore, day, day);
            int rule = lastHolding(text, TOLL, TOLL);
            if (text == null || rule < 0 || text.seconds[rule] <= 0) {
                return some / PLAIN_TOLL;
            }
            return some * text.firsts[rule] / text.seconds[rule];
        }

        /** The last RULE of one kind or the other whose COND holds for what is given; NONE without. */
        private int lastHolding(Text text, int oneKind, int otherKind) {
            int last = NONE;
            if (text == null) {
                return last;
            }
            for (int i = 0; i < text.size; i++) {
                int kind = text.kinds[i];
                if (kind == LET) {
                    int slot = text.firsts[i];
                    if (slot >= 0 && slot < given.length) {
                        given[slot] = workOut(text, i);
                    }
                } else if ((kind == oneKind || kind == otherKind) && workOut(text, i) != 0) {
                    last = i;
                }
            }
            return last;
        }

        private int workOut(Text text, int rule) {
            int top = 0;
            int begin = rule > 0 ? text.codeEnds[rule - 1] : 0;
            int end = Math.min(text.codeEnds[rule], text.code.length);
            for (int i = begin; i < end; i++) {
                int step = text.code[i];
                if (step >= 0) {
                    if (top < stack.length) {
                        stack[top] = step < Text.NAMES_FROM ? step : named(step - Text.NAMES_FROM);
                        top++;
                    }
                } else if (step == Text.NEGATE) {
                    if (top >= 1) {
                        stack[top - 1] = 1 - stack[top - 1];
                    }
                } else if (top >= 2) {
                    stack[top - 2] = joined(step, stack[top - 2], stack[top - 1]);
                    top--;
                }
            }
            return stack[0];
        }

        private int named(int slot) {
            return slot >= 0 && slot < given.length ? given[slot] : 0;
        }

        private static int joined(int step, int a, int b) {
            long v;
            switch (step) {
                case Text.ADD:
                    v = (long) a + b;
                    break;
                case Text.SUBTRACT:
                    v = (long) a - b;
                    break;
                case Text.MULTIPLY:
                    v = (long) a * b;
                    break;
                case Text.LESS:
                    return a < b ? 1 : 0;
                case Text.MORE:
                    return a > b ? 1 : 0;
                case Text.SAME:
                    return a == b ? 1 : 0;
                case Text.BOTH:
                    return a & b;
                default:
                    return a | b;
            }
            return v > BOUND ? BOUND : v < -BOUND ? -BOUND : (int) v;
        }
    }

    /** CHAINS that break, and the EVENTS of it. */
    private static final class Drift {
        private static final int MOST = 300;
        private static final int PARTS = 5;
        private static final int BREAKS = 1;
        private static final int HIT = 2;
        private static final int CAUGHT = 3;
        private static final int AGROUND = 4;
        private static final int LOST = 5;

        private final River river;
        private final int[] events = new int[MOST * PARTS];
        private int size;
        private int day;
        private int height;
        private boolean ice;

        Drift(River river) {
            this.river = river;
        }

        int told(int k, int what) {
            if (k < 0 || k >= size || what < 0 || what >= PARTS) {
                return NONE;
            }
            return events[k * PARTS + what];
        }

        private void tell(int which, int m, int other, int berth) {
            if (size < MOST) {
                int from = size * PARTS;
                events[from] = day;
                events[from + 1] = which;
                events[from + 2] = m;
                events[from + 3] = other;
                events[from + 4] = berth;
                size++;
            }
        }

        void breakChains(int onDay, int atHeight, boolean withIce) {
            day = onDay;
            height = atHeight;
            ice = withIce;
            for (int m = 0; m < river.size; m++) {
                int pull = river.pullBorne(m, river.lies, height, ice);
                if (pull > river.boats[m].chain) {
                    tell(BREAKS, m, NONE, river.lies[m]);
                    driftOn(m, pull, 0);
                }
            }
        }

        private void driftOn(int m, int pull, int hits) {
            for (int i = 0; i < STRETCHES && river.liesAtBerth(m); i++) {
                int berth = river.lies[m];
                if (stretchOf(berth) == STRETCHES - 1) {
                    river.lies[m] = GONE;
                    tell(LOST, m, NONE, NONE);
                    return;
                }
                int next = nextBerth(m, berth);
                if (next == NONE) {
                    tell(AGROUND, m, NONE, berth);
                    return;
                }
                int other = river.lyingAt(next, river.lies);
                if (other != NONE && !makesWay(other, m, pull, hits)) {
                    tell(CAUGHT, m, other, berth);
                    return;
                }
                river.lies[m] = next;
            }
        }

        /** Whether another MILL that lies in the way is HIT and drifts off its BERTH. */
        private boolean makesWay(int other, int m, int pull, int hits) {
            int berth = river.lies[other];
            int own = river.pullBorne(other, river.lies, height, ice);
            // each HIT lies further down, so that there are never more of them at once than MILLS
            if (own + pull <= river.boats[other].chain || hits >= MILLS) {
                return false;
            }
            tell(HIT, other, m, berth);
            driftOn(other, own, hits + 1);
            return river.lies[other] != berth;
        }

        private int nextBerth(int m, int berth) {
            int lane = laneOf(berth);
            int best = NONE;
            int bestValue = NONE;
            for (int i = 0; i < 3; i++) {
                int to = i == 0 ? lane : i == 1 ? lane - 1 : lane + 1;
                int next = to * STRETCHES + stretchOf(berth) + 1;
                if (to >= 0 && to < LANES && river.bears(next, m, height)) {
                    int value = river.tables[to].at(height);
                    if (value > bestValue) {
                        best = next;
                        bestValue = value;
                    }
                }
            }
            return best;
        }
    }

    /** SKIFFS, ORDERS and the GRIST of a DAY. */
    private static final class Grist {
        private static final int MOST = 60;
        private static final int ROWS = 30;

        private final River river;
        private final Law law;
        private final int[] skiffs = new int[SHORES];
        private final int[] rows = new int[SHORES];
        private final int[] shores = new int[MOST];
        private final int[] sacks = new int[MOST];
        private final int[] left = new int[MOST];
        private final int[] tolls = new int[MOST];
        private final int[] lastDays = new int[MOST];
        private int size;

        Grist(River river, Law law) {
            this.river = river;
            this.law = law;
        }

        int take(int shore, int ofSacks) {
            if (size >= MOST) {
                return NONE;
            }
            shores[size] = shore;
            sacks[size] = ofSacks;
            left[size] = ofSacks;
            lastDays[size] = NONE;
            size++;
            return size - 1;
        }

        int told(int order, int what) {
            if (order < 0 || order >= size) {
                return NONE;
            }
            switch (what) {
                case 0:
                    return shores[order];
                case 1:
                    return sacks[order];
                case 2:
                    return left[order];
                case 3:
                    return tolls[order];
                case 4:
                    return lastDays[order];
                default:
                    return NONE;
            }
        }

        int sacksLeft() {
            int sum = 0;
            for (int o = 0; o < size; o++) {
                sum += left[o];
            }
            return sum;
        }

        void grindDay(int day, int height) {
            for (int s = 0; s < SHORES; s++) {
                rows[s] = ROWS * skiffs[s];
            }
            int mills = river.size;
            if (mills <= 0) {
                return;
            }
            for (int i = 0; i < mills; i++) {
                int m = (day + i) % mills;
                if (mayGrind(m, day)) {
                    grindOrders(m, day, river.powerHad(m, river.lies, height));
                }
            }
        }

        private boolean mayGrind(int m, int day) {
            if (!river.liesAtBerth(m) || river.boats[m].dressedOn == day) {
                return false;
            }
            return (law.standing(m, river.lies[m], day, day) & 3) == 0;
        }

        private void grindOrders(int m, int day, int power) {
            int berth = river.lies[m];
            int lane = laneOf(berth);
            int may = power;
            for (int o = 0; o < size && may > 0; o++) {
                int shore = shores[o];
                int cost = shore == 0 ? 1 + lane : LANES - lane;
                int brought = cost > 0 ? rows[shore] / cost : 0;
                int some = Math.min(Math.min(left[o], may), brought);
                if (some > 0) {
                    int toll = law.tollFor(some, shore, sacks[o], m, berth, day);
                    may -= some;
                    rows[shore] -= some * cost;
                    left[o] -= some;
                    tolls[o] += toll;
                    lastDays[o] = left[o] == 0 ? day : NONE;
                    river.boats[m].grindSacks(some, toll);
                }
            }
        }
    }

    /** The latest PLAN, and the search for the best one. */
    private static final class Planner {
        private static final int CHOICES = LANES * PLAN_STRETCHES + 1;

        private final River river;
        private final Law law;
        private final int[] berths = new int[MILLS];
        private int bits;

        private final int[] who = new int[PLAN_MILLS];
        private final int[][] choices = new int[PLAN_MILLS][CHOICES];
        private final int[] choiceSizes = new int[PLAN_MILLS];
        // what the POWER of a choice, and of all choices from a level on, can't be above
        private final int[][] choiceTops = new int[PLAN_MILLS][CHOICES];
        private final int[] levelTops = new int[PLAN_MILLS + 1];
        private final int[] ways = new int[STRETCHES];
        private final int[] trial = new int[MILLS];
        private final int[] best = new int[MILLS];
        private int wanted;
        private int bestSum;
        private int height;
        private boolean ice;

        Planner(River river, Law law) {
            this.river = river;
            this.law = law;
        }

        boolean isThere() {
            return bits != 0;
        }

        boolean has(int m) {
            return m >= 0 && m < MILLS && (bits >> m & 1) == 1;
        }

        /** The sum of POWER of the best PLAN, which is the latest then; NONE if none can be. */
        int search(int day, int now, int mills, int from, int to) {
            height = law.heights.latestOr(day, now, FIRST_HEIGHT);
            ice = law.ices.exactOr(day, now, 0) == 1;
            chooseMills(mills);
            boolean kept = true;
            for (int s = from; s <= to && s < STRETCHES; s++) {
                ways[s] = law.wayOn(s, day, now);
                kept = kept && river.isOpen(s, ways[s], trial, height);
            }
            for (int i = 0; i < wanted; i++) {
                listChoices(i, day, now, from, to);
            }
            sumTops();
            bestSum = NONE;
            if (kept) {
                tryMill(0);
            }
            bits = bestSum < 0 ? 0 : mills;
            System.arraycopy(best, 0, berths, 0, MILLS);
            return bestSum;
        }

        private void chooseMills(int mills) {
            wanted = 0;
            for (int m = 0; m < MILLS; m++) {
                trial[m] = river.lies[m];
                if ((mills >> m & 1) == 1 && wanted < PLAN_MILLS) {
                    trial[m] = NONE;
                    who[wanted] = m;
                    wanted++;
                }
            }
        }

        /** The BERTHS that a MILL could have by itself, in the order in which PLANS are compared. */
        private void listChoices(int level, int day, int now, int from, int to) {
            int m = who[level];
            int n = 0;
            for (int lane = 0; lane < LANES; lane++) {
                for (int s = from; s <= to; s++) {
                    int berth = lane * STRETCHES + s;
                    boolean can = river.lyingAt(berth, trial) == NONE && river.bears(berth, m, height)
                            && (law.standing(m, berth, day, now) & 3) == 0;
                    if (can && n < CHOICES - 1) {
                        trial[m] = berth;
                        choices[level][n] = berth;
                        choiceTops[level][n] = river.topPower(m, trial, height);
                        trial[m] = NONE;
                        n++;
                    }
                }
            }
            choices[level][n] = NONE;
            choiceTops[level][n] = 0;
            choiceSizes[level] = n + 1;
        }

        private void sumTops() {
            int sum = 0;
            levelTops[PLAN_MILLS] = 0;
            for (int level = PLAN_MILLS - 1; level >= 0; level--) {
                int top = 0;
                for (int c = 0; level < wanted && c < choiceSizes[level]; c++) {
                    top = Math.max(top, choiceTops[level][c]);
                }
                sum += top;
                levelTops[level] = sum;
            }
        }

        private void tryMill(int level) {
            if (level >= wanted || level >= PLAN_MILLS) {
                weigh();
                return;
            }
            int top = levelTops[level + 1];
            for (int m = 0; m < river.size; m++) {
                top += river.topPower(m, trial, height);
            }
            for (int c = 0; c < choiceSizes[level]; c++) {
                if (top + choiceTops[level][c] > bestSum) {
                    tryBerth(level, choices[level][c]);
                }
            }
        }

        private void tryBerth(int level, int berth) {
            if (berth != NONE && river.lyingAt(berth, trial) != NONE) {
                return;
            }
            int m = who[level];
            trial[m] = berth;
            // more MILLS never open a WAY, so that one that is not KEPT now ends the trial
            if (berth == NONE || river.isOpen(stretchOf(berth), ways[stretchOf(berth)], trial, height)) {
                tryMill(level + 1);
            }
            trial[m] = NONE;
        }

        private void weigh() {
            for (int i = 0; i < wanted; i++) {
                int m = who[i];
                if (river.pullBorne(m, trial, height, ice) > river.boats[m].chain) {
                    return;
                }
            }
            int sum = 0;
            for (int m = 0; m < river.size; m++) {
                sum += river.powerHad(m, trial, height);
            }
            // trials come in the order in which PLANS are compared, so that the first of a sum stays
            if (sum > bestSum) {
                bestSum = sum;
                System.arraycopy(trial, 0, best, 0, MILLS);
            }
        }
    }

    /** The MOVES that lead to the latest PLAN from where MILLS lie. */
    private static final class Mover {
        private final River river;
        private final Planner planner;
        private final int[] movers = new int[PLAN_MILLS];
        private final int[] steps = new int[PLAN_MILLS];
        private final int[] trial = new int[MILLS];
        private final int[] away = new int[BERTHS];
        private final int[] queue = new int[BERTHS];
        private int queued;
        private int height;
        private int found;

        Mover(River river, Planner planner) {
            this.river = river;
            this.planner = planner;
        }

        int find(int atHeight) {
            if (!planner.isThere()) {
                return NONE;
            }
            height = atHeight;
            for (int m = 0; m < MILLS; m++) {
                trial[m] = river.lies[m];
                if (planner.has(m) && trial[m] == GONE) {
                    return NO_ORDER;
                }
            }
            found = 0;
            return arrange(0) ? found : NO_ORDER;
        }

        /** Whether the MILLS that are not in their places yet can go there, and how, from a MOVE on. */
        private boolean arrange(int level) {
            boolean arrived = true;
            for (int m = 0; m < MILLS; m++) {
                if (planner.has(m) && trial[m] != planner.berths[m]) {
                    arrived = false;
                    if (level < PLAN_MILLS && arrangeWith(m, level)) {
                        return true;
                    }
                }
            }
            if (arrived) {
                found = level;
            }
            return arrived;
        }

        private boolean arrangeWith(int m, int level) {
            int fewest = fewestSteps(m, planner.berths[m]);
            if (fewest == NONE) {
                return false;
            }
            movers[level] = m;
            steps[level] = fewest;
            int begun = trial[m];
            trial[m] = planner.berths[m];
            boolean fine = arrange(level + 1);
            trial[m] = begun;
            return fine;
        }

        /** STEPS to a BERTH, or ASHORE (NONE), as MILLS lie in the trial; NONE if there is no path. */
        private int fewestSteps(int m, int target) {
            Arrays.fill(away, NONE);
            queued = 0;
            begin(m);
            for (int i = 0; i < queued && i < BERTHS; i++) {
                int berth = queue[i];
                int lane = laneOf(berth);
                int stretch = stretchOf(berth);
                if (berth == target) {
                    return away[berth];
                }
                if (target == NONE && (lane == 0 || lane == LANES - 1)) {
                    return away[berth] + 1;
                }
                int next = away[berth] + 1;
                reach(m, lane - 1, stretch, next);
                reach(m, lane + 1, stretch, next);
                reach(m, lane, stretch - 1, next);
                reach(m, lane, stretch + 1, next);
            }
            return NONE;
        }

        private void begin(int m) {
            if (isBerth(trial[m])) {
                away[trial[m]] = 0;
                queue[0] = trial[m];
                queued = 1;
                return;
            }
            for (int s = 0; s < STRETCHES; s++) {
                reach(m, 0, s, 1);
                reach(m, LANES - 1, s, 1);
            }
        }

        private void reach(int m, int lane, int stretch, int far) {
            if (lane < 0 || lane >= LANES || stretch < 0 || stretch >= STRETCHES) {
                return;
            }
            int berth = lane * STRETCHES + stretch;
            if (away[berth] != NONE || queued >= BERTHS) {
                return;
            }
            if (river.lyingAt(berth, trial) == NONE && river.bears(berth, m, height)) {
                away[berth] = far;
                queue[queued] = berth;
                queued++;
            }
        }
    }
}
