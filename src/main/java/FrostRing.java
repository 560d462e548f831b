import java.util.Arrays;

/** Wet ground frozen on purpose around a shaft; the document tells what each call answers. */
public final class FrostRing {
    public static final int NONE = -1;

    private static final int NOTHING = -2000000000;

    private static final int OUT_OF_BOUNDS = -2;
    private static final int BEYOND = -3;
    private static final int FAULTY = -4;
    private static final int NOT_NOW = -5;
    private static final int MISSING = -6;
    private static final int FLOOD = -7;
    private static final int NO_SUCH_NUMBER = -7;
    private static final int NOT_SHUT = -8;
    private static final int OTHER_WIDTH = -8;

    private static final int SIDE = 12;
    private static final int CELLS = 144;
    private static final int GROUNDS = 4;
    private static final int MOST_BYTES = 700;
    private static final int MOST_LINES = 40;
    private static final int MOST_PIPES = 12;
    private static final int MORE_PIPES = 6;
    private static final int ALL_PIPES = 18;
    private static final int MOST_HOUSES = 6;
    private static final int MOST_RULES = 4;
    private static final int MOST_CONDS = 3;
    private static final int MOST_GAUGES = 10;
    private static final int MOST_READING = 500;
    private static final int MOST_COLD = 99999;
    private static final int MOST_NUMBER = 99999;
    private static final int MOST_TICK = 2000;
    private static final int TICKS_AT_ONCE = 40;
    private static final int TICKS_FORETOLD = 60;
    private static final int TICKS_OF_MORE = 30;
    private static final int IMAGES = 3;
    private static final int SLOTS = 4;
    private static final int WIDTHS = 4;
    private static final int LONGEST_ROW = 60;

    /** Places of the sums of HEAT; they are the numbers by which heat() is asked. */
    private static final int BY_PIPES = 1;
    private static final int OVER_RIM = 2;
    private static final int BY_STREAMS = 3;
    private static final int WITH_DUG = 4;
    private static final int AT_FIRST = 5;
    private static final int SUMS = 6;

    /** The words of a COND. */
    private static final int SHUT = 0;
    private static final int THICK = 1;
    private static final int GAPS = 2;
    private static final int TICK = 3;
    private static final int LIFT = 4;

    private State now = new State();
    /** A second state, for a TEXT that is being read and for TICKS that are only foretold. */
    private State draft = new State();
    private final State[] images = new State[IMAGES];
    private final Reader reader = new Reader();
    private final Parser parser = new Parser(reader, draft);
    private final Ticker ticker = new Ticker();
    private final Walls walls = new Walls();
    private final Slots slots = new Slots();
    /** What was found: it is no part of an image. */
    private final int[] toldGaps = new int[CELLS];
    private int toldCount = 0;
    private int chosenBits = 0;
    private int latestFault = 0;
    private int latestPlace = NONE;

    public FrostRing() {
        now.forget();
        now.begin();
    }

    public int feed(int a, int b, int c, int d, int e) {
        if (reader.length + 20 > MOST_BYTES) {
            return NONE;
        }
        reader.append(a);
        reader.append(b);
        reader.append(c);
        reader.append(d);
        reader.append(e);
        return reader.length;
    }

    public int end(int n) {
        if (n < 0 || n > reader.length) {
            return NONE;
        }
        reader.length = n;
        return n;
    }

    public int text() {
        parser.readText(draft);
        reader.length = 0;
        latestFault = parser.fault;
        latestPlace = parser.faultPlace;
        if (latestFault != 0) {
            return FAULTY;
        }
        draft.begin();
        State old = now;
        now = draft;
        draft = old;
        return now.lines;
    }

    public int fault(int what) {
        if (what == 0) {
            return latestFault;
        }
        return what == 1 ? latestPlace : NONE;
    }

    public int tick(int n) {
        if (n < 1 || n > TICKS_AT_ONCE) {
            return OUT_OF_BOUNDS;
        }
        if (now.ticks + n > MOST_TICK) {
            return BEYOND;
        }
        for (int i = 0; i < n; i++) {
            ticker.pass(now);
            floodIfOpen();
            now.crackHouses();
        }
        return now.ticks;
    }

    public int cell(int x, int y, int what) {
        if (!isCell(x, y)) {
            return NOTHING;
        }
        int c = SIDE * y + x;
        switch (what) {
            case 0:
                return now.soil.ground[c];
            case 1:
                return now.warm[c];
            case 2:
                return now.ice[c];
            case 3:
                return now.condition(c);
            case 4:
                return now.pipes.standingIn(c);
            case 5:
                return now.shaft[c];
            default:
                return NOTHING;
        }
    }

    public int heat(int what) {
        if (what == 0) {
            return now.heatOfAll();
        }
        return what > 0 && what < SUMS ? now.sums[what] : NOTHING;
    }

    public boolean run(int p, boolean is) {
        if (p < 0 || p >= now.pipes.count) {
            return false;
        }
        int wanted = is ? 1 : 0;
        boolean otherwise = now.pipes.runs[p] != wanted;
        now.pipes.runs[p] = wanted;
        return otherwise;
    }

    public int pipe(int p, int what) {
        return now.pipes.tell(p, what);
    }

    public int cold(int v) {
        if (v < 0 || v > MOST_COLD) {
            return OUT_OF_BOUNDS;
        }
        int was = now.cold;
        now.cold = v;
        return was;
    }

    public int shut() {
        if (now.shaftCells == 0) {
            return MISSING;
        }
        return walls.isShut(now) ? 1 : 0;
    }

    public int way() {
        return now.shaftCells == 0 ? MISSING : walls.shortestWay(now);
    }

    public int gaps() {
        if (now.shaftCells == 0) {
            return MISSING;
        }
        toldCount = walls.fewestGaps(now);
        walls.listGaps(toldGaps);
        return toldCount;
    }

    public int gap(int i) {
        return i >= 0 && i < toldCount && i < CELLS ? toldGaps[i] : NONE;
    }

    public int thick() {
        return now.shaftCells == 0 ? MISSING : walls.thinnestFrost(now);
    }

    public int dig(int x, int y) {
        if (!isCell(x, y)) {
            return OUT_OF_BOUNDS;
        }
        int c = SIDE * y + x;
        if (now.shaft[c] == 0 || now.dug[c] != 0) {
            return OUT_OF_BOUNDS;
        }
        boolean lets = now.rules.count == 0;
        for (int r = 0; r < now.rules.count && !lets; r++) {
            lets = lackingConds(r) == 0;
        }
        if (!lets) {
            return NOT_NOW;
        }
        if (now.flooded != 0) {
            return FLOOD;
        }
        now.digOut(c);
        return now.shaftCells - now.dugCells;
    }

    public int lacks(int r) {
        if (r < 0 || r >= now.rules.count) {
            return NONE;
        }
        return lackingConds(r);
    }

    public int pump() {
        if (now.shaftCells == 0) {
            return MISSING;
        }
        if (now.flooded == 0) {
            return NOT_NOW;
        }
        if (!walls.isShut(now)) {
            return NOT_SHUT;
        }
        now.flooded = 0;
        return 0;
    }

    public int lift(int x) {
        return x >= 0 && x < SIDE ? now.liftOfColumn(x) : NOTHING;
    }

    public int cracks() {
        return now.houses.crackedBits();
    }

    public int house(int h, int what) {
        return now.houses.tell(h, what);
    }

    public int foretell() {
        if (now.shaftCells == 0) {
            return MISSING;
        }
        draft.copyFrom(now);
        return firstTickWith(true, 0);
    }

    public int off() {
        if (now.shaftCells == 0) {
            return MISSING;
        }
        if (!walls.isShut(now)) {
            return NOT_NOW;
        }
        draft.copyFrom(now);
        draft.pipes.stopAll();
        return firstTickWith(false, 1);
    }

    public int more(int slot, int n) {
        boolean known = slot >= 0 && slot < SLOTS;
        if (!known || n < 1 || n > TICKS_OF_MORE || slots.lengthOf(slot) > MORE_PIPES) {
            return OUT_OF_BOUNDS;
        }
        if (!slots.hasRow(slot) || now.shaftCells == 0 || now.pipes.count == 0) {
            return MISSING;
        }
        if (!standForMore(slot)) {
            return NO_SUCH_NUMBER;
        }
        return fewestMore(slot, n);
    }

    public int chosen() {
        return chosenBits;
    }

    public int gauge(int g, int x, int y, int reading) {
        boolean known = g >= 0 && g < MOST_GAUGES && isCell(x, y);
        if (!known || reading < -MOST_READING || reading > MOST_READING) {
            return OUT_OF_BOUNDS;
        }
        now.gauges.cell[g] = SIDE * y + x;
        now.gauges.reading[g] = reading;
        return 0;
    }

    public int lies(int by) {
        return by < 0 || by > 99 ? OUT_OF_BOUNDS : now.beliedGauges(by);
    }

    public int most(int what) {
        if (what != 0 && what != 1) {
            return NONE;
        }
        return now.outermost(what == 0 ? -1 : 1);
    }

    public int frost(int y) {
        return y >= 0 && y < SIDE ? now.frozenBits(y) : NONE;
    }

    public int count(int what) {
        switch (what) {
            case 0:
                return now.lines;
            case 1:
                return now.ticks;
            case 2:
                return now.pipes.count;
            case 3:
                return now.frozenCells();
            case 4:
                return now.dugCells;
            case 5:
                return now.rules.count;
            case 6:
                return reader.length;
            case 7:
                return now.houses.count;
            case 8:
                return now.flooded;
            case 9:
                return now.cold;
            case 10:
                return slots.rows();
            case 11:
                return now.soil.far;
            case 12:
                return now.floods;
            default:
                return NONE;
        }
    }

    public int keep(int k) {
        if (k < 0 || k >= IMAGES) {
            return OUT_OF_BOUNDS;
        }
        if (images[k] == null) {
            images[k] = new State();
        }
        images[k].copyFrom(now);
        return 0;
    }

    public int back(int k) {
        if (k < 0 || k >= IMAGES) {
            return OUT_OF_BOUNDS;
        }
        if (images[k] == null) {
            return MISSING;
        }
        now.copyFrom(images[k]);
        return 0;
    }

    public int row(int slot, int width, int n) {
        if (slot < 0 || slot >= SLOTS || width < 0 || width >= WIDTHS || n > LONGEST_ROW) {
            return OUT_OF_BOUNDS;
        }
        if (n < 0) {
            return BEYOND;
        }
        slots.lay(slot, width, n);
        return 0;
    }

    public int write(int slot, int i, long v) {
        if (slot < 0 || slot >= SLOTS) {
            return OUT_OF_BOUNDS;
        }
        if (!slots.hasRow(slot)) {
            return MISSING;
        }
        if (i < 0 || i >= slots.lengthOf(slot)) {
            return NO_SUCH_NUMBER;
        }
        slots.put(slot, i, v);
        return 0;
    }

    public int paste(int slot, int i, int to, int k, int n) {
        if (slot < 0 || slot >= SLOTS || to < 0 || to >= SLOTS) {
            return OUT_OF_BOUNDS;
        }
        if (!slots.hasRow(slot) || !slots.hasRow(to)) {
            return MISSING;
        }
        if (slots.width[slot] != slots.width[to]) {
            return OTHER_WIDTH;
        }
        if (!slots.spans(slot, i, n) || !slots.spans(to, k, n)) {
            return NO_SUCH_NUMBER;
        }
        System.arraycopy(slots.numbers[slot], i, slots.numbers[to], k, n);
        return 0;
    }

    private static boolean isCell(int x, int y) {
        return x >= 0 && x < SIDE && y >= 0 && y < SIDE;
    }

    private static boolean isAtRim(int c) {
        int x = c % SIDE;
        int y = c / SIDE;
        return x == 0 || x == SIDE - 1 || y == 0 || y == SIDE - 1;
    }

    /** The CELL at a side (0 right, 1 left, 2 above, 3 below: side ^ 1 is the opposite one), or NONE. */
    private static int beside(int c, int side) {
        if (side == 0) {
            return c % SIDE < SIDE - 1 ? c + 1 : NONE;
        }
        if (side == 1) {
            return c % SIDE > 0 ? c - 1 : NONE;
        }
        if (side == 2) {
            return c >= SIDE ? c - SIDE : NONE;
        }
        return c < CELLS - SIDE ? c + SIDE : NONE;
    }

    private void floodIfOpen() {
        if (now.flooded == 0 && now.dugCells > 0 && !walls.isShut(now)) {
            now.flooded = 1;
            now.floods++;
        }
    }

    private int lackingConds(int r) {
        int bits = 0;
        for (int i = 0; i < now.rules.conds[r]; i++) {
            int at = MOST_CONDS * r + i;
            int word = now.rules.word[at];
            int value = measure(word);
            boolean holds = word == SHUT ? value == 1 : now.rules.compares(at, value);
            if (!holds) {
                bits |= 1 << i;
            }
        }
        return bits;
    }

    /** What a COND's word stands for now. */
    private int measure(int word) {
        boolean shafted = now.shaftCells > 0;
        switch (word) {
            case SHUT:
                return shafted && walls.isShut(now) ? 1 : 0;
            case THICK:
                return shafted ? walls.thinnestFrost(now) : 0;
            case GAPS:
                return shafted ? walls.fewestGaps(now) : 0;
            case TICK:
                return now.ticks;
            default:
                return now.greatestLift();
        }
    }

    /** Lets the draft's TICKS go by till its SHAFT is SHUT, or is not, as wanted. */
    private int firstTickWith(boolean wanted, int first) {
        for (int t = 0; t <= TICKS_FORETOLD; t++) {
            if (t > 0) {
                ticker.pass(draft);
            }
            if (t >= first && walls.isShut(draft) == wanted) {
                return t;
            }
        }
        return NONE;
    }

    /** Whether each number of a row is a CELL in which one of MORE PIPES may stand. */
    private boolean standForMore(int slot) {
        int n = slots.lengthOf(slot);
        for (int i = 0; i < n; i++) {
            long v = slots.numbers[slot][i];
            if (v < 0 || v >= CELLS) {
                return false;
            }
            int c = (int) v;
            if (now.dug[c] != 0 || now.pipes.standingIn(c) != NONE) {
                return false;
            }
            for (int j = 0; j < i; j++) {
                if (slots.numbers[slot][j] == v) {
                    return false;
                }
            }
        }
        return true;
    }

    /**
     * The first place is the highest bit of a set here, so that sets of one size, by falling
     * numbers, come in the order of their rows of places.
     */
    private int fewestMore(int slot, int n) {
        int places = slots.lengthOf(slot);
        for (int size = 0; size <= places; size++) {
            for (int set = (1 << places) - 1; set >= 0; set--) {
                if (Integer.bitCount(set) == size && shutsWith(slot, set, n)) {
                    chosenBits = turned(set, places);
                    return size;
                }
            }
        }
        return NONE;
    }

    private boolean shutsWith(int slot, int set, int n) {
        draft.copyFrom(now);
        int places = slots.lengthOf(slot);
        for (int i = 0; i < places; i++) {
            if ((set >> (places - 1 - i) & 1) != 0) {
                draft.pipes.add((int) slots.numbers[slot][i], draft.pipes.at[0], draft.pipes.lead[0]);
            }
        }
        for (int t = 0; t < n; t++) {
            ticker.pass(draft);
        }
        return walls.isShut(draft);
    }

    private static int turned(int set, int places) {
        int bits = 0;
        for (int i = 0; i < places; i++) {
            bits |= (set >> (places - 1 - i) & 1) << i;
        }
        return bits;
    }

    /** All that an image keeps. */
    private static final class State {
        final Soil soil = new Soil();
        final Pipes pipes = new Pipes();
        final Houses houses = new Houses();
        final Rules rules = new Rules();
        final Gauges gauges = new Gauges();
        final int[] warm = new int[CELLS];
        final int[] ice = new int[CELLS];
        final int[] dug = new int[CELLS];
        final int[] shaft = new int[CELLS];
        final int[] sums = new int[SUMS];
        int shaftCells = 0;
        int dugCells = 0;
        int cold = MOST_COLD;
        int lines = 0;
        int ticks = 0;
        int flooded = 0;
        int floods = 0;

        /** As if no LINE had been told. */
        void forget() {
            soil.forget();
            pipes.count = 0;
            houses.count = 0;
            rules.count = 0;
            Arrays.fill(shaft, 0);
            shaftCells = 0;
            cold = MOST_COLD;
            lines = 0;
        }

        /** What was told stays; all else is as behind a TEXT. */
        void begin() {
            Arrays.fill(warm, soil.far);
            Arrays.fill(ice, 0);
            Arrays.fill(dug, 0);
            Arrays.fill(sums, 0);
            Arrays.fill(gauges.cell, NONE);
            sums[AT_FIRST] = CELLS * soil.far;
            dugCells = 0;
            ticks = 0;
            flooded = 0;
            floods = 0;
        }

        void copyFrom(State other) {
            soil.copyFrom(other.soil);
            pipes.copyFrom(other.pipes);
            houses.copyFrom(other.houses);
            rules.copyFrom(other.rules);
            gauges.copyFrom(other.gauges);
            System.arraycopy(other.warm, 0, warm, 0, CELLS);
            System.arraycopy(other.ice, 0, ice, 0, CELLS);
            System.arraycopy(other.dug, 0, dug, 0, CELLS);
            System.arraycopy(other.shaft, 0, shaft, 0, CELLS);
            System.arraycopy(other.sums, 0, sums, 0, SUMS);
            shaftCells = other.shaftCells;
            dugCells = other.dugCells;
            cold = other.cold;
            lines = other.lines;
            ticks = other.ticks;
            flooded = other.flooded;
            floods = other.floods;
        }

        /** A DUG CELL keeps its ICE, but is FROZEN no more. */
        boolean isFrozen(int c) {
            return dug[c] == 0 && ice[c] == soil.latent[soil.ground[c]];
        }

        int condition(int c) {
            if (dug[c] != 0) {
                return 2;
            }
            return isFrozen(c) ? 1 : 0;
        }

        int heatOfAll() {
            int sum = 0;
            for (int c = 0; c < CELLS; c++) {
                if (dug[c] == 0) {
                    sum += warm[c] - ice[c];
                }
            }
            return sum;
        }

        void digOut(int c) {
            dug[c] = 1;
            dugCells++;
            sums[WITH_DUG] += warm[c] - ice[c];
        }

        int frozenBits(int y) {
            int bits = 0;
            for (int x = 0; x < SIDE; x++) {
                if (isFrozen(SIDE * y + x)) {
                    bits |= 1 << x;
                }
            }
            return bits;
        }

        int frozenCells() {
            int sum = 0;
            for (int y = 0; y < SIDE; y++) {
                sum += Integer.bitCount(frozenBits(y));
            }
            return sum;
        }

        int liftOfColumn(int x) {
            int sum = 0;
            for (int c = x; c < CELLS; c += SIDE) {
                if (dug[c] == 0) {
                    sum += ice[c] / 10;
                }
            }
            return sum;
        }

        int greatestLift() {
            int greatest = 0;
            for (int x = 0; x < SIDE; x++) {
                greatest = Math.max(greatest, liftOfColumn(x));
            }
            return greatest;
        }

        void crackHouses() {
            for (int h = 0; h < houses.count; h++) {
                int x = houses.column[h];
                int apart = Math.abs(liftOfColumn(x) - liftOfColumn(x + 1));
                if (houses.crackTick[h] == NONE && apart > houses.limit[h]) {
                    houses.crackTick[h] = ticks;
                }
            }
        }

        int beliedGauges(int by) {
            int bits = 0;
            for (int g = 0; g < MOST_GAUGES; g++) {
                int c = gauges.cell[g];
                if (c != NONE && (dug[c] != 0 || Math.abs(warm[c] - gauges.reading[g]) > by)) {
                    bits |= 1 << g;
                }
            }
            return bits;
        }

        /** The first CELL whose WARM is greatest (sign 1) or least (sign -1). */
        int outermost(int sign) {
            int found = NONE;
            for (int c = 0; c < CELLS; c++) {
                if (dug[c] == 0 && (found == NONE || sign * warm[c] > sign * warm[found])) {
                    found = c;
                }
            }
            return found;
        }
    }

    /** What the ground is, and what streams and lies around it. */
    private static final class Soil {
        final int[] lead = new int[GROUNDS];
        final int[] iceLead = new int[GROUNDS];
        final int[] latent = new int[GROUNDS];
        final int[] mark = new int[GROUNDS];
        final int[] ground = new int[CELLS];
        final int[] speed = new int[SIDE];
        int far = 100;

        void forget() {
            Arrays.fill(lead, 10);
            Arrays.fill(iceLead, 15);
            Arrays.fill(latent, 100);
            Arrays.fill(mark, 0);
            Arrays.fill(ground, 0);
            Arrays.fill(speed, NONE);
            far = 100;
        }

        void copyFrom(Soil other) {
            System.arraycopy(other.lead, 0, lead, 0, GROUNDS);
            System.arraycopy(other.iceLead, 0, iceLead, 0, GROUNDS);
            System.arraycopy(other.latent, 0, latent, 0, GROUNDS);
            System.arraycopy(other.mark, 0, mark, 0, GROUNDS);
            System.arraycopy(other.ground, 0, ground, 0, CELLS);
            System.arraycopy(other.speed, 0, speed, 0, SIDE);
            far = other.far;
        }
    }

    private static final class Pipes {
        final int[] cell = new int[ALL_PIPES];
        final int[] at = new int[ALL_PIPES];
        final int[] lead = new int[ALL_PIPES];
        final int[] runs = new int[ALL_PIPES];
        final int[] latest = new int[ALL_PIPES];
        final int[] total = new int[ALL_PIPES];
        int count = 0;

        void add(int c, int through, int itsLead) {
            if (count >= ALL_PIPES) {
                return;
            }
            cell[count] = c;
            at[count] = through;
            lead[count] = itsLead;
            runs[count] = 1;
            latest[count] = 0;
            total[count] = 0;
            count++;
        }

        int standingIn(int c) {
            for (int p = 0; p < count; p++) {
                if (cell[p] == c) {
                    return p;
                }
            }
            return NONE;
        }

        void stopAll() {
            Arrays.fill(runs, 0);
        }

        int tell(int p, int what) {
            if (p < 0 || p >= count) {
                return NOTHING;
            }
            switch (what) {
                case 0:
                    return cell[p];
                case 1:
                    return at[p];
                case 2:
                    return lead[p];
                case 3:
                    return runs[p];
                case 4:
                    return latest[p];
                case 5:
                    return total[p];
                default:
                    return NOTHING;
            }
        }

        void copyFrom(Pipes other) {
            System.arraycopy(other.cell, 0, cell, 0, ALL_PIPES);
            System.arraycopy(other.at, 0, at, 0, ALL_PIPES);
            System.arraycopy(other.lead, 0, lead, 0, ALL_PIPES);
            System.arraycopy(other.runs, 0, runs, 0, ALL_PIPES);
            System.arraycopy(other.latest, 0, latest, 0, ALL_PIPES);
            System.arraycopy(other.total, 0, total, 0, ALL_PIPES);
            count = other.count;
        }
    }

    private static final class Houses {
        final int[] column = new int[MOST_HOUSES];
        final int[] limit = new int[MOST_HOUSES];
        final int[] crackTick = new int[MOST_HOUSES];
        int count = 0;

        void add(int x, int itsLimit) {
            if (count >= MOST_HOUSES) {
                return;
            }
            column[count] = x;
            limit[count] = itsLimit;
            crackTick[count] = NONE;
            count++;
        }

        int crackedBits() {
            int bits = 0;
            for (int h = 0; h < count; h++) {
                if (crackTick[h] != NONE) {
                    bits |= 1 << h;
                }
            }
            return bits;
        }

        int tell(int h, int what) {
            if (h < 0 || h >= count) {
                return NOTHING;
            }
            switch (what) {
                case 0:
                    return column[h];
                case 1:
                    return limit[h];
                case 2:
                    return crackTick[h];
                default:
                    return NOTHING;
            }
        }

        void copyFrom(Houses other) {
            System.arraycopy(other.column, 0, column, 0, MOST_HOUSES);
            System.arraycopy(other.limit, 0, limit, 0, MOST_HOUSES);
            System.arraycopy(other.crackTick, 0, crackTick, 0, MOST_HOUSES);
            count = other.count;
        }
    }

    /** COND i of RULE r stands at MOST_CONDS * r + i. */
    private static final class Rules {
        final int[] conds = new int[MOST_RULES];
        final int[] word = new int[MOST_RULES * MOST_CONDS];
        final int[] sign = new int[MOST_RULES * MOST_CONDS];
        final int[] number = new int[MOST_RULES * MOST_CONDS];
        int count = 0;

        /** A RULE that is being read is counted only when it is closed. */
        void openRule() {
            if (count < MOST_RULES) {
                conds[count] = 0;
            }
        }

        void closeRule() {
            if (count < MOST_RULES) {
                count++;
            }
        }

        void addCond(int itsWord, int itsSign, int itsNumber) {
            if (count >= MOST_RULES || conds[count] >= MOST_CONDS) {
                return;
            }
            int at = MOST_CONDS * count + conds[count];
            word[at] = itsWord;
            sign[at] = itsSign;
            number[at] = itsNumber;
            conds[count]++;
        }

        boolean compares(int at, int value) {
            return sign[at] == '<' ? value < number[at] : value > number[at];
        }

        void copyFrom(Rules other) {
            System.arraycopy(other.conds, 0, conds, 0, MOST_RULES);
            System.arraycopy(other.word, 0, word, 0, MOST_RULES * MOST_CONDS);
            System.arraycopy(other.sign, 0, sign, 0, MOST_RULES * MOST_CONDS);
            System.arraycopy(other.number, 0, number, 0, MOST_RULES * MOST_CONDS);
            count = other.count;
        }
    }

    /** The CELL of a GAUGE that was not read is NONE. */
    private static final class Gauges {
        final int[] cell = new int[MOST_GAUGES];
        final int[] reading = new int[MOST_GAUGES];

        void copyFrom(Gauges other) {
            System.arraycopy(other.cell, 0, cell, 0, MOST_GAUGES);
            System.arraycopy(other.reading, 0, reading, 0, MOST_GAUGES);
        }
    }

    /** The TAPE, and the TOKEN of it at which the parser stands. */
    private static final class Reader {
        static final int END = 0;
        static final int WORD = 1;
        static final int NUMBER = 2;
        static final int SIGN = 3;
        static final int BLANK = 4;
        static final int BAD = 5;

        /** Above all bounds, so that a number of many digits can stop growing here. */
        private static final int TOO_MUCH = 1000000;

        final int[] bytes = new int[MOST_BYTES];
        int length = 0;
        int position = 0;
        int kind = END;
        int place = 0;
        /** A number's value, or the byte of a sign. */
        int value = 0;

        void append(int four) {
            for (int shift = 24; shift >= 0; shift -= 8) {
                if (length < MOST_BYTES) {
                    bytes[length] = four >>> shift & 255;
                    length++;
                }
            }
        }

        void rewind() {
            position = 0;
            advance();
        }

        void advance() {
            while (position < length && kindOf(bytes[position]) == BLANK) {
                position++;
            }
            place = position;
            value = 0;
            if (position >= length) {
                kind = END;
                return;
            }
            kind = kindOf(bytes[position]);
            if (kind != WORD && kind != NUMBER) {
                value = bytes[position];
                position++;
                return;
            }
            while (position < length && kindOf(bytes[position]) == kind) {
                if (kind == NUMBER) {
                    value = Math.min(TOO_MUCH, 10 * value + bytes[position] - '0');
                }
                position++;
            }
        }

        boolean isWord(String word) {
            if (kind != WORD || position - place != word.length()) {
                return false;
            }
            for (int i = 0; i < word.length(); i++) {
                if (bytes[place + i] != word.charAt(i)) {
                    return false;
                }
            }
            return true;
        }

        boolean isSign(int sign) {
            return kind == SIGN && value == sign;
        }

        private static int kindOf(int b) {
            if (b == 32 || b == 10) {
                return BLANK;
            }
            if (b >= 'a' && b <= 'z') {
                return WORD;
            }
            if (b >= '0' && b <= '9') {
                return NUMBER;
            }
            return b == '<' || b == '>' || b == '-' || b == ';' ? SIGN : BAD;
        }
    }

    /** Reads the TAPE as a TEXT, till the end of the LINE in which the first FAULT is: no later one counts. */
    private static final class Parser {
        private final Reader reader;
        private final int[] groundTold = new int[GROUNDS];
        private State state;
        private int farTold = 0;
        private int coldTold = 0;
        private int numberPlace = 0;
        int fault = 0;
        int faultPlace = NONE;

        Parser(Reader tape, State into) {
            reader = tape;
            state = into;
        }

        void readText(State into) {
            state = into;
            state.forget();
            Arrays.fill(groundTold, 0);
            farTold = 0;
            coldTold = 0;
            fault = 0;
            faultPlace = NONE;
            reader.rewind();
            for (int line = 0; line <= MOST_LINES; line++) {
                if (fault != 0 || reader.kind == Reader.END) {
                    return;
                }
                readLine();
            }
        }

        private void readLine() {
            boolean room = state.lines < MOST_LINES;
            if (reader.isWord("ground")) {
                openLine(room);
                readGround();
            } else if (reader.isWord("lay")) {
                openLine(room);
                readLay();
            } else if (reader.isWord("stream")) {
                openLine(room);
                readStream();
            } else if (reader.isWord("far")) {
                openLine(room && farTold == 0);
                readFar();
            } else if (reader.isWord("shaft")) {
                openLine(room && state.shaftCells == 0);
                readShaft();
            } else if (reader.isWord("pipe")) {
                openLine(room && state.pipes.count < MOST_PIPES);
                readPipe();
            } else if (reader.isWord("cold")) {
                openLine(room && coldTold == 0);
                readCold();
            } else if (reader.isWord("house")) {
                openLine(room && state.houses.count < MOST_HOUSES);
                readHouse();
            } else if (reader.isWord("dig")) {
                openLine(room && state.rules.count < MOST_RULES);
                readRule();
            } else {
                fail(1, reader.place);
            }
            needSign(';');
            state.lines++;
        }

        private void openLine(boolean allowed) {
            if (!allowed) {
                fail(3, reader.place);
            }
            reader.advance();
        }

        private void readGround() {
            int g = number(0, GROUNDS - 1);
            if (groundTold[g] != 0) {
                fail(2, numberPlace);
            }
            groundTold[g] = 1;
            needWord("lead");
            state.soil.lead[g] = number(0, 15);
            needWord("ice");
            state.soil.iceLead[g] = number(0, 15);
            needWord("latent");
            state.soil.latent[g] = number(1, 999);
            needWord("mark");
            state.soil.mark[g] = number(-30, 0);
        }

        private void readLay() {
            int x = number(0, SIDE - 1);
            int y = number(0, SIDE - 1);
            needWord("to");
            int x2 = number(x, SIDE - 1);
            int y2 = number(y, SIDE - 1);
            needWord("ground");
            int g = number(0, GROUNDS - 1);
            fillBlock(state.soil.ground, x, y, x2, y2, g);
        }

        private void readStream() {
            int y = number(0, SIDE - 1);
            if (state.soil.speed[y] != NONE) {
                fail(2, numberPlace);
            }
            needWord("speed");
            state.soil.speed[y] = number(0, 30);
        }

        private void readFar() {
            farTold = 1;
            state.soil.far = number(1, 300);
        }

        private void readShaft() {
            int x = number(1, SIDE - 2);
            int y = number(1, SIDE - 2);
            needWord("to");
            int x2 = number(x, SIDE - 2);
            int y2 = number(y, SIDE - 2);
            fillBlock(state.shaft, x, y, x2, y2, 1);
            state.shaftCells = (x2 - x + 1) * (y2 - y + 1);
        }

        private void readPipe() {
            int x = number(0, SIDE - 1);
            int y = number(0, SIDE - 1);
            int c = SIDE * y + x;
            if (state.pipes.standingIn(c) != NONE) {
                fail(2, numberPlace);
            }
            needWord("at");
            int at = number(-400, 0);
            needWord("lead");
            state.pipes.add(c, at, number(0, 60));
        }

        private void readCold() {
            coldTold = 1;
            state.cold = number(0, MOST_COLD);
        }

        private void readHouse() {
            int x = number(0, SIDE - 2);
            needWord("limit");
            state.houses.add(x, number(0, 999));
        }

        private void readRule() {
            needWord("if");
            state.rules.openRule();
            for (int i = 0; i <= MOST_CONDS; i++) {
                int word = condWord();
                if (word == NONE) {
                    fail(1, reader.place);
                } else if (i == MOST_CONDS) {
                    fail(3, reader.place);
                }
                reader.advance();
                int sign = word == SHUT ? 0 : comparison();
                int bound = word == SHUT ? 0 : number(0, MOST_NUMBER);
                state.rules.addCond(word, sign, bound);
                if (fault != 0 || !reader.isWord("and")) {
                    break;
                }
                reader.advance();
            }
            state.rules.closeRule();
        }

        private int condWord() {
            if (reader.isWord("shut")) {
                return SHUT;
            }
            if (reader.isWord("thick")) {
                return THICK;
            }
            if (reader.isWord("gaps")) {
                return GAPS;
            }
            if (reader.isWord("tick")) {
                return TICK;
            }
            return reader.isWord("lift") ? LIFT : NONE;
        }

        private int comparison() {
            int sign = reader.value;
            if (!reader.isSign('<') && !reader.isSign('>')) {
                fail(1, reader.place);
            }
            reader.advance();
            return sign;
        }

        /**
         * A number within its bounds, with a - before it where it may be below 0; the lower bound
         * stands in for one that is a FAULT, so that it can be used as an index all the same.
         */
        private int number(int low, int high) {
            boolean minus = low < 0 && reader.isSign('-');
            if (minus) {
                reader.advance();
            }
            numberPlace = reader.place;
            if (reader.kind != Reader.NUMBER) {
                fail(1, numberPlace);
                return low;
            }
            int found = minus ? -reader.value : reader.value;
            reader.advance();
            if (found < low || found > high) {
                fail(2, numberPlace);
                return low;
            }
            return found;
        }

        private void needWord(String word) {
            if (!reader.isWord(word)) {
                fail(1, reader.place);
            }
            reader.advance();
        }

        private void needSign(int sign) {
            if (!reader.isSign(sign)) {
                fail(1, reader.place);
            }
            reader.advance();
        }

        private void fail(int which, int place) {
            if (fault == 0) {
                fault = which;
                faultPlace = place;
            }
        }

        private static void fillBlock(int[] cells, int x, int y, int x2, int y2, int with) {
            for (int row = y; row <= y2; row++) {
                for (int column = x; column <= x2; column++) {
                    cells[SIDE * row + column] = with;
                }
            }
        }
    }

    /** Lets a TICK's HEAT go by; what happens behind a TICK is not its own. */
    private static final class Ticker {
        private final int[] lead = new int[CELLS];
        private final int[] heat = new int[CELLS];
        private final int[] wants = new int[ALL_PIPES];

        void pass(State s) {
            lookUpLeads(s);
            Arrays.fill(heat, 0);
            leadBetweenCells(s);
            leadOverRim(s);
            for (int y = 0; y < SIDE; y++) {
                if (s.soil.speed[y] > 0) {
                    stream(s, y);
                }
            }
            takeByPipes(s);
            for (int c = 0; c < CELLS; c++) {
                if (heat[c] < 0) {
                    cool(s, c, -heat[c]);
                } else if (heat[c] > 0) {
                    warmUp(s, c, heat[c]);
                }
            }
            s.ticks++;
        }

        /** A DUG CELL leads nothing, so that no HEAT comes to it or goes from it. */
        private void lookUpLeads(State s) {
            for (int c = 0; c < CELLS; c++) {
                int g = s.soil.ground[c];
                if (s.dug[c] != 0) {
                    lead[c] = 0;
                } else {
                    lead[c] = s.isFrozen(c) ? s.soil.iceLead[g] : s.soil.lead[g];
                }
            }
        }

        private void leadBetweenCells(State s) {
            for (int y = 0; y < SIDE; y++) {
                for (int x = 0; x < SIDE; x++) {
                    int c = SIDE * y + x;
                    if (x < SIDE - 1) {
                        exchange(s, c, c + 1);
                    }
                    if (y < SIDE - 1) {
                        exchange(s, c, c + SIDE);
                    }
                }
            }
        }

        private void exchange(State s, int c, int other) {
            int comes = (s.warm[other] - s.warm[c]) * Math.min(lead[c], lead[other]) / 100;
            heat[c] += comes;
            heat[other] -= comes;
        }

        /** A CELL in a corner stands at two sides, and comes twice. */
        private void leadOverRim(State s) {
            for (int i = 0; i < SIDE; i++) {
                comeOverRim(s, i);
                comeOverRim(s, CELLS - SIDE + i);
                comeOverRim(s, SIDE * i);
                comeOverRim(s, SIDE * i + SIDE - 1);
            }
        }

        private void comeOverRim(State s, int c) {
            int comes = (s.soil.far - s.warm[c]) * lead[c] / 100;
            heat[c] += comes;
            s.sums[OVER_RIM] += comes;
        }

        private void stream(State s, int y) {
            int from = s.soil.far;
            boolean streams = true;
            for (int x = 0; x < SIDE; x++) {
                int c = SIDE * y + x;
                boolean lets = s.dug[c] == 0 && !s.isFrozen(c);
                if (streams && lets) {
                    int comes = (from - s.warm[c]) * s.soil.speed[y] / 100;
                    heat[c] += comes;
                    s.sums[BY_STREAMS] += comes;
                }
                streams = lets;
                from = s.warm[c];
            }
        }

        private void takeByPipes(State s) {
            int all = 0;
            for (int p = 0; p < s.pipes.count; p++) {
                wants[p] = wanted(s, p);
                all += wants[p];
            }
            for (int p = 0; p < s.pipes.count; p++) {
                int takes = wants[p];
                if (all > s.cold && all > 0) {
                    takes = takes * s.cold / all;
                }
                heat[s.pipes.cell[p]] -= takes;
                s.pipes.latest[p] = takes;
                s.pipes.total[p] += takes;
                s.sums[BY_PIPES] += takes;
            }
        }

        private static int wanted(State s, int p) {
            int c = s.pipes.cell[p];
            if (s.pipes.runs[p] == 0 || s.dug[c] != 0) {
                return 0;
            }
            return Math.max(0, s.warm[c] - s.pipes.at[p]) * s.pipes.lead[p] / 100;
        }

        private static void cool(State s, int c, int heatLost) {
            int g = s.soil.ground[c];
            int falls = Math.min(heatLost, Math.max(0, s.warm[c] - s.soil.mark[g]));
            int freezes = Math.min(heatLost - falls, s.soil.latent[g] - s.ice[c]);
            s.ice[c] += freezes;
            s.warm[c] -= heatLost - freezes;
        }

        private static void warmUp(State s, int c, int heatCome) {
            int g = s.soil.ground[c];
            int rises = Math.min(heatCome, Math.max(0, s.soil.mark[g] - s.warm[c]));
            int thaws = Math.min(heatCome - rises, s.ice[c]);
            s.ice[c] -= thaws;
            s.warm[c] += heatCome - thaws;
        }
    }

    /** Looks for WAYS, GAPS and how THICK the frost is. */
    private static final class Walls {
        private static final int OPEN = 0;
        private static final int FROST = 1;
        private static final int SHAFT = 2;

        /** In a search for GAPS each CELL is two nodes: c where one comes in, CELLS + c where one goes out. */
        private static final int NODES = 288;
        private static final int UNSEEN = -1;
        private static final int FROM_SHAFT = -2;

        private final int[] kind = new int[CELLS];
        private final int[] atShaft = new int[CELLS];
        private final int[] steps = new int[CELLS];
        private int[] queue = new int[NODES];
        private int[] later = new int[NODES];
        private int queued = 0;
        private int queuedLater = 0;
        private final int[] parent = new int[NODES];
        /** 1 if a path goes through a CELL; if one goes from CELL c over a side (4 * c + side). */
        private final int[] through = new int[CELLS];
        private final int[] over = new int[4 * CELLS];

        boolean isShut(State s) {
            return shortestWay(s) == NONE;
        }

        int shortestWay(State s) {
            look(s);
            Arrays.fill(steps, 0);
            queued = 0;
            for (int c = 0; c < CELLS; c++) {
                if (atShaft[c] != 0 && kind[c] == OPEN) {
                    step(c, 1);
                }
            }
            for (int i = 0; i < queued && i < NODES; i++) {
                int c = queue[i];
                if (isAtRim(c)) {
                    return steps[c];
                }
                for (int side = 0; side < 4; side++) {
                    int next = beside(c, side);
                    if (next != NONE && kind[next] == OPEN && steps[next] == 0) {
                        step(next, steps[c] + 1);
                    }
                }
            }
            return NONE;
        }

        /** A search comes to each CELL once, so that there is always room; so it is in reach and come. */
        private void step(int c, int count) {
            if (queued < NODES) {
                steps[c] = count;
                queue[queued] = c;
                queued++;
            }
        }

        /** CELLS with as many FROZEN ones behind them are gone through together, the fewest first. */
        int thinnestFrost(State s) {
            look(s);
            Arrays.fill(steps, 0);
            queued = 0;
            queuedLater = 0;
            for (int c = 0; c < CELLS; c++) {
                if (atShaft[c] != 0) {
                    reach(c);
                }
            }
            for (int frozen = 0; frozen <= CELLS; frozen++) {
                if (reachesRim()) {
                    return frozen;
                }
                int[] emptied = queue;
                queue = later;
                later = emptied;
                queued = queuedLater;
                queuedLater = 0;
            }
            return 0;
        }

        private boolean reachesRim() {
            for (int i = 0; i < queued && i < NODES; i++) {
                int c = queue[i];
                if (isAtRim(c)) {
                    return true;
                }
                for (int side = 0; side < 4; side++) {
                    int next = beside(c, side);
                    if (next != NONE) {
                        reach(next);
                    }
                }
            }
            return false;
        }

        private void reach(int c) {
            if (steps[c] != 0 || kind[c] == SHAFT) {
                return;
            }
            steps[c] = 1;
            if (kind[c] == OPEN && queued < NODES) {
                queue[queued] = c;
                queued++;
            } else if (queuedLater < NODES) {
                later[queuedLater] = c;
                queuedLater++;
            }
        }

        /** As many as there are paths from the SHAFT to the RIM that share no CELL (Menger). */
        int fewestGaps(State s) {
            look(s);
            Arrays.fill(through, 0);
            Arrays.fill(over, 0);
            int paths = 0;
            for (int round = 0; round < CELLS; round++) {
                int last = searchPath();
                if (last == NONE) {
                    break;
                }
                layPath(last);
                paths++;
            }
            return paths;
        }

        /**
         * The search that found no path more has come to all that lies before the GAPS: they are
         * the CELLS that it came into and not out of, and no set as small lies nearer to the SHAFT.
         */
        void listGaps(int[] into) {
            int n = 0;
            for (int c = 0; c < CELLS; c++) {
                if (parent[c] != UNSEEN && parent[CELLS + c] == UNSEEN && n < into.length) {
                    into[n] = c;
                    n++;
                }
            }
        }

        /** The node at the RIM to which a further path comes, or NONE. */
        private int searchPath() {
            Arrays.fill(parent, UNSEEN);
            queued = 0;
            for (int c = 0; c < CELLS; c++) {
                if (atShaft[c] != 0 && kind[c] == OPEN) {
                    come(c, FROM_SHAFT);
                }
            }
            for (int i = 0; i < queued && i < NODES; i++) {
                int node = queue[i];
                if (node < CELLS) {
                    goOnFromInside(node);
                } else if (isAtRim(node - CELLS)) {
                    return node;
                } else {
                    goOnFromOutside(node - CELLS);
                }
            }
            return NONE;
        }

        private void come(int node, int from) {
            if (parent[node] == UNSEEN && queued < NODES) {
                parent[node] = from;
                queue[queued] = node;
                queued++;
            }
        }

        /** Through the CELL if no path takes it, or back along the path that comes into it. */
        private void goOnFromInside(int c) {
            if (through[c] == 0) {
                come(CELLS + c, c);
            }
            for (int side = 0; side < 4; side++) {
                int other = beside(c, side);
                if (other != NONE && over[4 * other + (side ^ 1)] != 0) {
                    come(CELLS + other, c);
                }
            }
        }

        private void goOnFromOutside(int c) {
            if (through[c] != 0) {
                come(c, CELLS + c);
            }
            for (int side = 0; side < 4; side++) {
                int other = beside(c, side);
                if (other != NONE && kind[other] == OPEN) {
                    come(other, CELLS + c);
                }
            }
        }

        /** Turns over each step of the path that was found, from its last node to the SHAFT. */
        private void layPath(int last) {
            int node = last;
            for (int i = 0; i < NODES; i++) {
                int from = parent[node];
                if (from < 0) {
                    return;
                }
                if (from < CELLS && node >= CELLS) {
                    goBackOrThrough(from, node - CELLS);
                } else if (from >= CELLS && node < CELLS) {
                    goOutOrBack(from - CELLS, node);
                }
                node = from;
            }
        }

        private void goBackOrThrough(int in, int out) {
            if (in == out) {
                through[in] = 1;
            } else {
                over[4 * out + sideTo(out, in)] = 0;
            }
        }

        private void goOutOrBack(int out, int in) {
            if (in == out) {
                through[in] = 0;
            } else {
                over[4 * out + sideTo(out, in)] = 1;
            }
        }

        private static int sideTo(int c, int other) {
            if (other == c + 1) {
                return 0;
            }
            if (other == c - 1) {
                return 1;
            }
            return other < c ? 2 : 3;
        }

        private void look(State s) {
            for (int c = 0; c < CELLS; c++) {
                if (s.shaft[c] != 0) {
                    kind[c] = SHAFT;
                } else {
                    kind[c] = s.isFrozen(c) ? FROST : OPEN;
                }
                atShaft[c] = 0;
            }
            for (int c = 0; c < CELLS; c++) {
                for (int side = 0; side < 4 && kind[c] == SHAFT; side++) {
                    int other = beside(c, side);
                    if (other != NONE && s.shaft[other] == 0) {
                        atShaft[other] = 1;
                    }
                }
            }
        }
    }

    /** The rows; each SLOT has its numbers made once, and of a row only its length changes. */
    private static final class Slots {
        final long[][] numbers = new long[SLOTS][LONGEST_ROW];
        final int[] width = new int[SLOTS];
        /** NONE: the SLOT has nothing. */
        private final int[] length = new int[SLOTS];

        Slots() {
            Arrays.fill(length, NONE);
        }

        boolean hasRow(int slot) {
            return length[slot] != NONE;
        }

        int lengthOf(int slot) {
            return length[slot];
        }

        int rows() {
            int sum = 0;
            for (int slot = 0; slot < SLOTS; slot++) {
                sum += hasRow(slot) ? 1 : 0;
            }
            return sum;
        }

        void lay(int slot, int itsWidth, int n) {
            width[slot] = itsWidth;
            length[slot] = n;
            Arrays.fill(numbers[slot], 0L);
        }

        void put(int slot, int i, long v) {
            numbers[slot][i] = cut(v, width[slot]);
        }

        /** Whether n numbers from one on are all in the row. */
        boolean spans(int slot, int from, int n) {
            return from >= 0 && n >= 0 && (long) from + n <= length[slot];
        }

        private static long cut(long v, int itsWidth) {
            switch (itsWidth) {
                case 0:
                    return (byte) v;
                case 1:
                    return (short) v;
                case 2:
                    return (int) v;
                default:
                    return v;
            }
        }
    }
}
