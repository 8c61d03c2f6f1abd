/** A tide engine: parts as wheels of kinds on trains of gears, each turned by one shaft. */
public final class TideWheels {
    public static final int NONE = -1, BAD = -2, STATE = -3, FULL = -4;
    public static final long NO = Long.MIN_VALUE;

    private static final int MISSING = -11, OUTSIDE = -12, OTHER_SORT = -13, BELOW_ZERO = -14;
    private static final int FAULT_BASE = -100;

    private static final int PARTS = 6, PAIRS = 3, LEAST_TEETH = 8, MOST_TEETH = 200;
    private static final int FIRST_SHAFT = 64, MOST_SHAFT = 999, LAST_TICK = 99999;

    /** The traits of a part, and the most that each may be. */
    private static final int KIND = 0, FIGURE = 1, AMP = 2, PHASE = 3, TRAITS = 4;
    private static final int[] MOST = {5, 9, 999, 1023};

    private static final int WHEEL = 0, TWIN = 1, SLOT = 2, DRIFT = 3, HALF = 4, LATCH = 5;
    private static final int[] KIND_ABOVE = {WHEEL, WHEEL, WHEEL, WHEEL, TWIN, DRIFT};

    private static final int PLACES = 1024, HALF_WAY = 512;
    private static final int FITS = 0, TOO_WIDE = 1, TOO_UNLIKE = 2;

    private static final int MOST_WATERS = 2000, MOST_REFOUND = 200, MOST_TOLD = 8;
    private static final int HIGH = 1, LOW = -1;

    private static final int MOST_RATE = 9999, RATE_BASE = 10000, MOST_SEEDS = 20;

    private static final int SHEETS = 4, MOST_ITEMS = 40, LONGS = 0, INTS = 1;

    private static final int TAPE_ROOM = 60, MOST_FED = 5, MOST_BYTE = 255, MOST_DIGITS = 4;
    private static final int END = 0, BLANK = 1, WORD = 2, NUMBER = 3, SIGN = 4, STRAY = 5;
    private static final int SAY_PART = 0, SAY_GEAR = 1, SAY_SHAFT = 2, SAY_PHASE = 3, SAY_AMP = 4;
    /** How many numbers stand behind the word of a clause. */
    private static final int[] NUMBERS = {4, 3, 1, 2, 2};

    private final Works works = new Works();
    private final Works kept = new Works();
    private boolean isKept = false;
    private final Sheet[] sheets = new Sheet[SHEETS];
    private final Tape tape = new Tape();

    /** A part as it might be: what is asked in thought is asked of it, so the true parts stay as they are. */
    private final Wheel thought = new Wheel();
    /** The heights of all parts but the one in thought, for as many ticks as one call looks at. */
    private final long[] rest = new long[MOST_REFOUND + 1];
    private final Flow flow = new Flow();

    public TideWheels() {
        for (int i = 0; i < SHEETS; i++) {
            sheets[i] = new Sheet();
        }
    }

    // ---- parts, gears

    public int part(int kind, int figure, int amp, int phase) {
        if (!allows(KIND, kind) || !allows(FIGURE, figure) || !allows(AMP, amp) || !allows(PHASE, phase)) {
            return BAD;
        }
        return works.addWheel(kind, figure, amp, phase);
    }

    public int drop() {
        if (works.parts <= 0) {
            return STATE;
        }
        works.parts--;
        return works.parts;
    }

    public int gear(int part, int a, int b) {
        Wheel wheel = works.wheelOf(part);
        if (wheel == null || !isTeeth(a) || !isTeeth(b)) {
            return BAD;
        }
        int answer = wheel.addPair(a, b);
        wheel.tune(works.shaft);
        return answer;
    }

    public int ungear(int part) {
        Wheel wheel = works.wheelOf(part);
        if (wheel == null) {
            return BAD;
        }
        if (wheel.pairs <= 0) {
            return STATE;
        }
        wheel.pairs--;
        wheel.tune(works.shaft);
        return wheel.pairs;
    }

    public int shaft(int v) {
        if (!within(v, 1, MOST_SHAFT)) {
            return BAD;
        }
        int was = works.shaft;
        works.goAt(v);
        return was;
    }

    public int set(int part, int what, int v) {
        return within(what, 0, 2) ? change(part, FIGURE + what, v) : BAD;
    }

    public int kind(int part, int kind) {
        return change(part, KIND, kind);
    }

    public int of(int part, int what) {
        Wheel wheel = works.wheelOf(part);
        if (wheel == null) {
            return BAD;
        }
        if (within(what, KIND, PHASE)) {
            return wheel.traits[what];
        }
        if (what == 4) {
            return wheel.pairs;
        }
        if (within(what, 10, 12)) {
            return wheel.toothOf(wheel.a, what - 10);
        }
        if (within(what, 20, 22)) {
            return wheel.toothOf(wheel.b, what - 20);
        }
        return BAD;
    }

    public int taken(int part, int k) {
        Wheel wheel = works.wheelOf(part);
        if (wheel == null || !allows(KIND, k)) {
            return BAD;
        }
        return wheel.isA(k) ? wheel.traits[PHASE] : OTHER_SORT;
    }

    public int jam(int part, int what) {
        Wheel wheel = works.wheelOf(part);
        if (wheel == null || !within(what, 0, 3)) {
            return BAD;
        }
        int pair = wheel.jammed();
        if (what == 0) {
            return pair;
        }
        int a = wheel.toothOf(wheel.a, pair);
        int b = wheel.toothOf(wheel.b, pair);
        if (what == 1) {
            return pair == NONE ? 0 : misfit(a, b);
        }
        if (what == 2) {
            return pair == NONE ? 0 : 2;
        }
        return pair == NONE ? NONE : Math.max(a, b);
    }

    public long speed(int part, int line) {
        Wheel wheel = works.wheelOf(part);
        if (wheel == null || !within(line, 0, 1)) {
            return NO;
        }
        return line == 0 ? wheel.above : wheel.below;
    }

    // ---- turning

    public int turn(int n) {
        if (!within(n, 1, LAST_TICK)) {
            return BAD;
        }
        if (works.tick + n > LAST_TICK) {
            return FULL;
        }
        works.tick += n;
        return works.tick;
    }

    public long height() {
        return works.level(works.tick);
    }

    public long heightAt(int t) {
        return isTick(t) ? works.level(t) : NO;
    }

    public long heightOf(int part, int t) {
        Wheel wheel = works.wheelOf(part);
        return wheel == null || !isTick(t) ? NO : wheel.swing(t);
    }

    public int place(int part, int t) {
        Wheel wheel = works.wheelOf(part);
        return wheel == null || !isTick(t) ? BAD : wheel.spot(t);
    }

    // ---- waters

    public int waters(int f, int n, int what) {
        if (!isTick(f) || !within(n, 1, MOST_WATERS) || !within(what, 0, 3)) {
            return BAD;
        }
        int side = what == 0 || what == 2 ? HIGH : LOW;
        int found = 0;
        int tick = NONE;
        long utmost = 0;
        flow.start(works.level(f));
        for (int t = f; t < f + n; t++) {
            long here = flow.level;
            if (flow.step(works.level(t + 1)) == side) {
                found++;
                if (tick == NONE || side * here > side * utmost) {
                    tick = t;
                    utmost = here;
                }
            }
        }
        return what < 2 ? found : tick;
    }

    public int water(int f, int n, int side, int k) {
        if (!isTick(f) || !within(n, 1, MOST_WATERS) || !within(side, 0, 1) || k < 0) {
            return BAD;
        }
        int asked = side == 0 ? HIGH : LOW;
        int found = 0;
        flow.start(works.level(f));
        for (int t = f; t < f + n; t++) {
            if (flow.step(works.level(t + 1)) == asked) {
                if (found == k) {
                    return t;
                }
                found++;
            }
        }
        return NONE;
    }

    // ---- what was told

    public int tells(int sheet, int f, int what) {
        if (!isSheet(sheet) || !isTick(f) || !within(what, 0, 3)) {
            return BAD;
        }
        Sheet told = sheets[sheet];
        if (!told.canTell()) {
            return told.isMissing() ? MISSING : BAD;
        }
        switch (what) {
            case 0: return firstOtherwise(told, f);
            case 1: return wrongBy(PHASE, told, f);
            case 2: return wrongBy(AMP, told, f);
            default: return wrongBy(KIND, told, f);
        }
    }

    public int refound(int sheet, int part, int f, int n, int what) {
        Wheel wheel = works.wheelOf(part);
        if (!isSheet(sheet) || wheel == null || !isTick(f) || !within(n, 1, MOST_REFOUND) || !within(what, 0, 1)) {
            return BAD;
        }
        Sheet told = sheets[sheet];
        if (!told.canTell()) {
            return told.isMissing() ? MISSING : BAD;
        }
        think(wheel, f, n + 1);
        int fitting = 0;
        int least = NONE;
        for (int phase = MOST[PHASE]; phase >= 0; phase--) {
            thought.traits[PHASE] = phase;
            if (hasHighs(told, f, n)) {
                fitting++;
                least = phase;
            }
        }
        return what == 0 ? fitting : least;
    }

    public int film(int sheet, int f, int n) {
        if (!isSheet(sheet) || !isTick(f) || !within(n, 0, MOST_ITEMS)) {
            return BAD;
        }
        Sheet filmed = sheets[sheet];
        filmed.begin(LONGS, n);
        for (int i = 0; i < n; i++) {
            filmed.write(i, works.level(f + i));
        }
        return n;
    }

    // ---- gears, drifts

    public int nearest(int u, int v) {
        if (!within(u, 1, MOST_RATE) || !within(v, 1, MOST_RATE)) {
            return BAD;
        }
        int bestA = 0;
        int bestB = 0;
        long bestOff = 0;
        for (int a = LEAST_TEETH; a <= MOST_TEETH; a++) {
            for (int b = LEAST_TEETH; b <= MOST_TEETH; b++) {
                // How far a by b is off is this by b times v, and v is the same for all.
                long off = Math.abs((long) a * v - (long) u * b);
                if (misfit(a, b) == FITS && (bestA == 0 || off * bestB < bestOff * b)) {
                    bestA = a;
                    bestB = b;
                    bestOff = off;
                }
            }
        }
        return 1000 * bestA + bestB;
    }

    public long off(int part, int uv, int n, int line) {
        Wheel wheel = works.wheelOf(part);
        // Of a uv below 0 the quotient or the remainder is none of 1 .. 9999, too.
        int u = uv / RATE_BASE;
        int v = uv % RATE_BASE;
        if (wheel == null || !within(u, 1, MOST_RATE) || !within(v, 1, MOST_RATE)) {
            return NO;
        }
        if (!within(n, 0, MOST_RATE) || !within(line, 0, 1)) {
            return NO;
        }
        return lowest((wheel.above * v - wheel.below * u) * n, wheel.below * v, line);
    }

    public int alike(int part) {
        if (part == NONE) {
            return works.groups();
        }
        Wheel wheel = works.wheelOf(part);
        return wheel == null ? BAD : works.likeOnes(wheel);
    }

    // ---- by lot

    public long drawn(int seed, int t) {
        return isTick(t) ? levelByLot(seed, t) : NO;
    }

    public int chance(int seed, int m, int t, int w, int part) {
        if (!within(m, 1, MOST_SEEDS) || !isTick(t) || !within(part, 0, 1)) {
            return BAD;
        }
        int high = 0;
        for (int i = 0; i < m; i++) {
            if (levelByLot(seed + i, t) >= w) {
                high++;
            }
        }
        return (int) lowest(high, m, part);
    }

    // ---- texts

    public int feed(int n, int a, int b, int c, int d, int e) {
        if (!within(n, 1, MOST_FED) || !isByte(a) || !isByte(b) || !isByte(c) || !isByte(d) || !isByte(e)) {
            return BAD;
        }
        if (tape.size + n > TAPE_ROOM) {
            return FULL;
        }
        for (int i = 0; i < n; i++) {
            tape.addByte(i == 0 ? a : i == 1 ? b : i == 2 ? c : i == 3 ? d : e);
        }
        return tape.size;
    }

    public int text() {
        int fault = tape.findFault();
        tape.size = 0;
        if (fault != NONE) {
            return FAULT_BASE - fault;
        }
        int done = 0;
        int at = 0;
        for (int i = 0; i < tape.clauses; i++) {
            int word = tape.saidAt(at);
            // Only a refusal is below 0.
            if (doClause(word, at + 1) >= 0) {
                done++;
            }
            at += 1 + numbersOf(word);
        }
        return done;
    }

    // ---- the image, the host

    public int image() {
        kept.become(works);
        isKept = true;
        return works.parts;
    }

    public int back() {
        if (!isKept) {
            return STATE;
        }
        works.become(kept);
        return works.parts;
    }

    public int load(int sheet, int sort, int from, int n) {
        if (!isSheet(sheet) || !within(sort, LONGS, INTS) || !within(n, 0, PARTS)) {
            return BAD;
        }
        Sheet row = sheets[sheet];
        // A missing one is of no other sort, though that is asked first.
        if (row.isMissing()) {
            return MISSING;
        }
        if (row.sort != sort) {
            return OTHER_SORT;
        }
        int came = 0;
        for (int i = 0; i < n; i++) {
            if (!row.holds((long) from + TRAITS * i, TRAITS)) {
                return OUTSIDE;
            }
            if (partFrom(row, from + TRAITS * i) >= 0) {
                came++;
            }
        }
        return came;
    }

    public int count(int what) {
        switch (what) {
            case 0: return works.parts;
            case 1: return works.tick;
            case 2: return tape.size;
            case 3: return works.pairsOfAll();
            case 4: return works.jams();
            case 5: return works.shaft;
            default: return BAD;
        }
    }

    public int sheet(int sheet, int sort, int n) {
        if (!isSheet(sheet) || !within(sort, NONE, INTS)) {
            return BAD;
        }
        if (sort == NONE) {
            sheets[sheet].begin(NONE, 0);
            return 1;
        }
        if (n > MOST_ITEMS) {
            return BAD;
        }
        if (n < 0) {
            return BELOW_ZERO;
        }
        sheets[sheet].begin(sort, n);
        return 1;
    }

    public int put(int sheet, int i, long v) {
        if (!isSheet(sheet)) {
            return BAD;
        }
        Sheet row = sheets[sheet];
        if (row.isMissing()) {
            return MISSING;
        }
        if (!row.holds(i, 1)) {
            return OUTSIDE;
        }
        row.write(i, v);
        return 1;
    }

    public long item(int sheet, int i) {
        if (!isSheet(sheet) || sheets[sheet].isMissing() || !sheets[sheet].holds(i, 1)) {
            return NO;
        }
        return sheets[sheet].row[i];
    }

    public int copy(int sheet, int i, int other, int j, int n) {
        if (!isSheet(sheet) || !isSheet(other)) {
            return BAD;
        }
        Sheet source = sheets[sheet];
        Sheet target = sheets[other];
        if (source.isMissing() || target.isMissing()) {
            return MISSING;
        }
        if (source.sort != target.sort) {
            return OTHER_SORT;
        }
        if (!source.holds(i, n) || !target.holds(j, n)) {
            return OUTSIDE;
        }
        System.arraycopy(source.row, i, target.row, j, n);
        return n;
    }

    // ---- what the calls share

    private static boolean within(int v, int least, int most) {
        return v >= least && v <= most;
    }

    private static boolean allows(int trait, int v) {
        return within(trait, KIND, PHASE) && within(v, 0, MOST[trait]);
    }

    private static boolean isTeeth(int v) {
        return within(v, LEAST_TEETH, MOST_TEETH);
    }

    private static boolean isTick(int t) {
        return within(t, 0, LAST_TICK);
    }

    private static boolean isByte(int v) {
        return within(v, 0, MOST_BYTE);
    }

    private static boolean isSheet(int sheet) {
        return within(sheet, 0, SHEETS - 1);
    }

    /** Why a pair of teeth doesn't fit, or that it does. */
    private static int misfit(int a, int b) {
        if (a + b > 300) {
            return TOO_WIDE;
        }
        return a > 6 * b || b > 6 * a ? TOO_UNLIKE : FITS;
    }

    /** A quotient, cut; it is 0 where nothing could divide. */
    private static long cut(long above, long below) {
        return below == 0 ? 0 : above / below;
    }

    private static long greatestDivisor(long one, long other) {
        long x = one;
        long y = other;
        for (int i = 0; i < 1000 && y != 0; i++) {
            long left = x % y;
            x = y;
            y = left;
        }
        return x;
    }

    /** One number of a fraction in lowest terms: the one above its line (0), the one below it (1). */
    private static long lowest(long above, long below, int line) {
        return cut(line == 0 ? above : below, greatestDivisor(Math.abs(above), below));
    }

    private int change(int part, int trait, int v) {
        Wheel wheel = works.wheelOf(part);
        if (wheel == null || !allows(trait, v)) {
            return BAD;
        }
        int was = wheel.traits[trait];
        wheel.traits[trait] = v;
        return was;
    }

    /** Makes a wheel the one in thought, and the rest what the others give at n ticks from f on. */
    private void think(Wheel wheel, int f, int n) {
        thought.become(wheel);
        for (int i = 0; i < n && i < rest.length; i++) {
            rest[i] = works.level(f + i) - wheel.swing(f + i);
        }
    }

    private int firstOtherwise(Sheet told, int f) {
        for (int i = 0; i < told.size; i++) {
            if (told.row[i] != works.level(f + i)) {
                return i;
            }
        }
        return NONE;
    }

    private int wrongBy(int trait, Sheet told, int f) {
        int values = MOST[trait] + 1;
        for (int part = 0; part < works.parts; part++) {
            think(works.wheels[part], f, told.size);
            for (int v = 0; v < values; v++) {
                thought.traits[trait] = v;
                if (isAllSo(told, f)) {
                    return values * part + v;
                }
            }
        }
        return NONE;
    }

    private boolean isAllSo(Sheet told, int f) {
        for (int i = 0; i < told.size && i < rest.length; i++) {
            if (told.row[i] != rest[i] + thought.swing(f + i)) {
                return false;
            }
        }
        return true;
    }

    private boolean hasHighs(Sheet told, int f, int n) {
        int found = 0;
        flow.start(rest[0] + thought.swing(f));
        for (int i = 1; i <= n && i < rest.length && found < told.size; i++) {
            boolean isHigh = flow.step(rest[i] + thought.swing(f + i)) == HIGH;
            if (isHigh != (told.row[found] == f + i - 1)) {
                return false;
            }
            if (isHigh) {
                found++;
            }
        }
        return found == told.size;
    }

    private long levelByLot(int seed, int t) {
        int z = seed;
        long level = 0;
        for (int part = 0; part < works.parts; part++) {
            z = z * 1103515245 + 12345;
            thought.become(works.wheels[part]);
            thought.traits[PHASE] = (z >>> 9) % 1024;
            level += thought.swing(t);
        }
        return level;
    }

    private int doClause(int word, int at) {
        int first = tape.saidAt(at);
        int second = tape.saidAt(at + 1);
        int third = tape.saidAt(at + 2);
        switch (word) {
            case SAY_PART: return part(first, second, third, tape.saidAt(at + 3));
            case SAY_GEAR: return gear(first, second, third);
            case SAY_SHAFT: return shaft(first);
            case SAY_PHASE: return change(first, PHASE, second);
            case SAY_AMP: return change(first, AMP, second);
            default: return BAD;
        }
    }

    private static int numbersOf(int word) {
        return within(word, SAY_PART, SAY_AMP) ? NUMBERS[word] : 0;
    }

    private static String spellingOf(int word) {
        switch (word) {
            case SAY_PART: return "part";
            case SAY_GEAR: return "gear";
            case SAY_SHAFT: return "shaft";
            case SAY_PHASE: return "phase";
            case SAY_AMP: return "amp";
            default: return "";
        }
    }

    /** A part by the four items from one on, all of which the row holds. */
    private int partFrom(Sheet row, int at) {
        return part((int) row.row[at], (int) row.row[at + 1], (int) row.row[at + 2], (int) row.row[at + 3]);
    }

    /** A part and its train. */
    private static final class Wheel {
        final int[] traits = new int[TRAITS];
        final int[] a = new int[PAIRS];
        final int[] b = new int[PAIRS];
        int pairs = 0;
        // The speed in lowest terms stands here, as a call may look at it for thousands of ticks.
        long above = 0;
        long below = 1;

        void become(Wheel other) {
            System.arraycopy(other.traits, 0, traits, 0, TRAITS);
            System.arraycopy(other.a, 0, a, 0, PAIRS);
            System.arraycopy(other.b, 0, b, 0, PAIRS);
            pairs = other.pairs;
            above = other.above;
            below = other.below;
        }

        int addPair(int left, int right) {
            if (pairs >= PAIRS) {
                return FULL;
            }
            a[pairs] = left;
            b[pairs] = right;
            pairs++;
            return pairs;
        }

        int toothOf(int[] side, int pair) {
            return pair >= 0 && pair < pairs ? side[pair] : NONE;
        }

        /** No kind is more than two below the highest one. */
        boolean isA(int k) {
            int own = traits[KIND];
            return k == own || k == KIND_ABOVE[own] || k == WHEEL;
        }

        int jammed() {
            for (int i = 0; i < pairs; i++) {
                if (misfit(a[i], b[i]) != FITS) {
                    return i;
                }
            }
            return NONE;
        }

        /** To be called whenever the train or the shaft is another one. */
        void tune(int shaft) {
            long up = jammed() == NONE ? shaft : 0;
            long down = 1;
            for (int i = 0; i < pairs; i++) {
                up *= a[i];
                down *= b[i];
            }
            above = lowest(up, down, 0);
            below = lowest(up, down, 1);
        }

        boolean isAsFastAs(Wheel other) {
            return above == other.above && below == other.below;
        }

        long wayAt(int t) {
            long plain = traits[PHASE] + cut(t * above, below);
            long drifted = plain + traits[FIGURE] * (t / 100);
            switch (traits[KIND]) {
                case TWIN: case HALF: return 2 * plain;
                case DRIFT: return drifted;
                case LATCH: return drifted - drifted % 64;
                default: return plain;
            }
        }

        int spot(int t) {
            return (int) (wayAt(t) % PLACES);
        }

        int shapeAt(int i) {
            int past = i % HALF_WAY;
            int bow = past * (HALF_WAY - past);
            int plain = i < HALF_WAY ? bow : -bow;
            int most = (traits[FIGURE] + 1) * 6553;
            switch (traits[KIND]) {
                case SLOT: return Math.max(-most, Math.min(most, plain));
                case HALF: return plain / 2;
                default: return plain;
            }
        }

        long swing(int t) {
            return (long) traits[AMP] * shapeAt(spot(t));
        }
    }

    /** All that an image keeps. */
    private static final class Works {
        final Wheel[] wheels = new Wheel[PARTS];
        int parts = 0;
        int shaft = FIRST_SHAFT;
        int tick = 0;

        Works() {
            for (int i = 0; i < PARTS; i++) {
                wheels[i] = new Wheel();
            }
        }

        void become(Works other) {
            for (int i = 0; i < PARTS; i++) {
                wheels[i].become(other.wheels[i]);
            }
            parts = other.parts;
            shaft = other.shaft;
            tick = other.tick;
        }

        /** A part, or null where there is none such. */
        Wheel wheelOf(int part) {
            return part >= 0 && part < parts ? wheels[part] : null;
        }

        int addWheel(int kind, int figure, int amp, int phase) {
            if (parts >= PARTS) {
                return FULL;
            }
            Wheel wheel = wheels[parts];
            wheel.traits[KIND] = kind;
            wheel.traits[FIGURE] = figure;
            wheel.traits[AMP] = amp;
            wheel.traits[PHASE] = phase;
            // A part that was dropped may have left its train here.
            wheel.pairs = 0;
            wheel.tune(shaft);
            parts++;
            return parts - 1;
        }

        void goAt(int v) {
            shaft = v;
            for (int i = 0; i < parts; i++) {
                wheels[i].tune(v);
            }
        }

        long level(int t) {
            long sum = 0;
            for (int i = 0; i < parts; i++) {
                sum += wheels[i].swing(t);
            }
            return sum;
        }

        int likeOnes(Wheel wheel) {
            int bits = 0;
            for (int i = 0; i < parts; i++) {
                if (wheels[i].isAsFastAs(wheel)) {
                    bits |= 1 << i;
                }
            }
            return bits;
        }

        int groups() {
            int groups = 0;
            for (int i = 0; i < parts; i++) {
                // The first one of a speed stands for all of that speed.
                if ((likeOnes(wheels[i]) & ((1 << i) - 1)) == 0) {
                    groups++;
                }
            }
            return groups;
        }

        int pairsOfAll() {
            int pairs = 0;
            for (int i = 0; i < parts; i++) {
                pairs += wheels[i].pairs;
            }
            return pairs;
        }

        int jams() {
            int jams = 0;
            for (int i = 0; i < parts; i++) {
                if (wheels[i].jammed() != NONE) {
                    jams++;
                }
            }
            return jams;
        }
    }

    /** The water's level as it goes from tick to tick, and which way it went latest. */
    private static final class Flow {
        long level = 0;
        int way = 0;

        void start(long first) {
            level = first;
            way = 0;
        }

        /** Goes on to the next level, and tells what the tick left behind is: HIGH, LOW or 0. */
        int step(long next) {
            int going = next > level ? 1 : next < level ? -1 : 0;
            level = next;
            if (going == 0) {
                return 0;
            }
            int was = way;
            way = going;
            return was == going ? 0 : was;
        }
    }

    /** A row of numbers, or a missing one (of sort NONE); its room is made once, and used again. */
    private static final class Sheet {
        final long[] row = new long[MOST_ITEMS];
        int sort = NONE;
        int size = 0;

        boolean isMissing() {
            return sort == NONE;
        }

        boolean canTell() {
            return !isMissing() && size <= MOST_TOLD;
        }

        void begin(int newSort, int newSize) {
            sort = newSort;
            size = newSize;
            for (int i = 0; i < row.length; i++) {
                row[i] = 0;
            }
        }

        /** i may be beyond an int, so that a sum that a caller made can't wrap. */
        boolean holds(long i, int n) {
            return i >= 0 && n >= 0 && i + n <= size;
        }

        void write(int i, long v) {
            if (holds(i, 1)) {
                row[i] = sort == INTS ? (int) v : v;
            }
        }
    }

    /** The bytes that were fed, how they are read as tokens, and what they said. */
    private static final class Tape {
        final int[] bytes = new int[TAPE_ROOM];
        int size = 0;
        // The latest token: its sort, its first byte, the byte behind it.
        int sort = END;
        int from = 0;
        int to = 0;
        // What clauses say: for each one its word, then its numbers. A token takes a byte at least.
        final int[] said = new int[TAPE_ROOM];
        int saidSize = 0;
        int clauses = 0;

        void addByte(int v) {
            if (size < bytes.length) {
                bytes[size] = v;
                size++;
            }
        }

        int byteAt(int i) {
            return i >= 0 && i < size ? bytes[i] : NONE;
        }

        int sortAt(int i) {
            int v = byteAt(i);
            if (v == NONE) {
                return END;
            }
            if (v == ' ' || v == 10) {
                return BLANK;
            }
            if (v == ';') {
                return SIGN;
            }
            if (within(v, '0', '9')) {
                return NUMBER;
            }
            return within(v, 'a', 'z') ? WORD : STRAY;
        }

        /** The first place from i on where no byte of that sort stands. */
        int behind(int i, int such) {
            int at = i;
            while (at < size && sortAt(at) == such) {
                at++;
            }
            return at;
        }

        int next() {
            from = behind(to, BLANK);
            sort = sortAt(from);
            to = sort == SIGN ? from + 1 : behind(from, sort);
            return sort;
        }

        /** The place of the fault, or NONE; where there is none, all that was said is known. */
        int findFault() {
            to = 0;
            saidSize = 0;
            clauses = 0;
            boolean stands = readClause();
            for (int i = 0; i < TAPE_ROOM && stands && next() == SIGN; i++) {
                stands = readClause();
            }
            // An end that stands where it can't is at the text's size, as any other token is at its first byte.
            return stands && sort == END ? NONE : from;
        }

        boolean readClause() {
            if (next() != WORD) {
                return false;
            }
            int word = wordRead();
            if (word == NONE) {
                return false;
            }
            clauses++;
            say(word);
            for (int i = 0; i < numbersOf(word); i++) {
                if (next() != NUMBER || to - from > MOST_DIGITS) {
                    return false;
                }
                say(numberRead());
            }
            return true;
        }

        int wordRead() {
            for (int word = SAY_PART; word <= SAY_AMP; word++) {
                if (isSpelt(spellingOf(word))) {
                    return word;
                }
            }
            return NONE;
        }

        boolean isSpelt(String word) {
            if (word.length() != to - from) {
                return false;
            }
            for (int i = 0; i < word.length(); i++) {
                if (word.charAt(i) != byteAt(from + i)) {
                    return false;
                }
            }
            return true;
        }

        int numberRead() {
            int number = 0;
            for (int i = from; i < to; i++) {
                number = number * 10 + byteAt(i) - '0';
            }
            return number;
        }

        void say(int v) {
            if (saidSize < said.length) {
                said[saidSize] = v;
                saidSize++;
            }
        }

        int saidAt(int i) {
            return i >= 0 && i < saidSize ? said[i] : 0;
        }
    }
}
