import java.math.BigInteger;
import java.util.ArrayList;
import java.util.Arrays;
import java.util.List;
import java.util.TreeSet;
import java.util.regex.Matcher;
import java.util.regex.Pattern;

/** The document over again, as plainly as its words, without a thought for speed: what random runs are held against. */
public final class Oracle {
    private static final int[] ABOVE = {-1, 0, 0, 0, 1, 3};

    private static final class Part {
        int kind, figure, amp, phase;
        List<int[]> train = new ArrayList<>();

        Part copy() {
            Part p = new Part();
            p.kind = kind;
            p.figure = figure;
            p.amp = amp;
            p.phase = phase;
            for (int[] pair : train) {
                p.train.add(pair.clone());
            }
            return p;
        }
    }

    private static final class State {
        List<Part> parts = new ArrayList<>();
        int shaft = 64;
        int tick = 0;

        State copy() {
            State s = new State();
            s.shaft = shaft;
            s.tick = tick;
            for (Part p : parts) {
                s.parts.add(p.copy());
            }
            return s;
        }
    }

    private State now = new State();
    private State kept = null;
    private final Object[] sheets = new Object[4];
    private String tape = "";

    private boolean isPart(int part) { return part >= 0 && part < now.parts.size(); }

    private static boolean in(long v, long least, long most) { return least <= v && v <= most; }

    // ---- parts, gears

    public int part(int kind, int figure, int amp, int phase) {
        if (!in(kind, 0, 5) || !in(figure, 0, 9) || !in(amp, 0, 999) || !in(phase, 0, 1023)) return -2;
        if (now.parts.size() == 6) return -4;
        Part p = new Part();
        p.kind = kind;
        p.figure = figure;
        p.amp = amp;
        p.phase = phase;
        now.parts.add(p);
        return now.parts.size() - 1;
    }

    public int drop() {
        if (now.parts.isEmpty()) return -3;
        now.parts.remove(now.parts.size() - 1);
        return now.parts.size();
    }

    public int gear(int part, int a, int b) {
        if (!isPart(part) || !in(a, 8, 200) || !in(b, 8, 200)) return -2;
        List<int[]> train = now.parts.get(part).train;
        if (train.size() == 3) return -4;
        train.add(new int[] {a, b});
        return train.size();
    }

    public int ungear(int part) {
        if (!isPart(part)) return -2;
        List<int[]> train = now.parts.get(part).train;
        if (train.isEmpty()) return -3;
        train.remove(train.size() - 1);
        return train.size();
    }

    public int shaft(int v) {
        if (!in(v, 1, 999)) return -2;
        int was = now.shaft;
        now.shaft = v;
        return was;
    }

    public int set(int part, int what, int v) {
        if (!isPart(part) || !in(what, 0, 2)) return -2;
        Part p = now.parts.get(part);
        int was;
        if (what == 0) {
            if (!in(v, 0, 9)) return -2;
            was = p.figure;
            p.figure = v;
        } else if (what == 1) {
            if (!in(v, 0, 999)) return -2;
            was = p.amp;
            p.amp = v;
        } else {
            if (!in(v, 0, 1023)) return -2;
            was = p.phase;
            p.phase = v;
        }
        return was;
    }

    public int kind(int part, int kind) {
        if (!isPart(part) || !in(kind, 0, 5)) return -2;
        int was = now.parts.get(part).kind;
        now.parts.get(part).kind = kind;
        return was;
    }

    public int of(int part, int what) {
        if (!isPart(part)) return -2;
        Part p = now.parts.get(part);
        if (what == 0) return p.kind;
        if (what == 1) return p.figure;
        if (what == 2) return p.amp;
        if (what == 3) return p.phase;
        if (what == 4) return p.train.size();
        if (!in(what, 10, 12) && !in(what, 20, 22)) return -2;
        int pair = what % 10;
        return pair < p.train.size() ? p.train.get(pair)[what / 10 - 1] : -1;
    }

    public int taken(int part, int k) {
        if (!isPart(part) || !in(k, 0, 5)) return -2;
        for (int own = now.parts.get(part).kind; own != -1; own = ABOVE[own]) {
            if (own == k) return now.parts.get(part).phase;
        }
        return -13;
    }

    private static boolean tooWide(int[] pair) { return pair[0] + pair[1] > 300; }

    private static boolean tooUnlike(int[] pair) { return pair[0] > 6 * pair[1] || pair[1] > 6 * pair[0]; }

    private static int[] jamOf(Part p) {
        for (int[] pair : p.train) {
            if (tooWide(pair) || tooUnlike(pair)) return pair;
        }
        return null;
    }

    public int jam(int part, int what) {
        if (!isPart(part) || !in(what, 0, 3)) return -2;
        int[] pair = jamOf(now.parts.get(part));
        if (what == 0) return now.parts.get(part).train.indexOf(pair);
        if (what == 1) return pair == null ? 0 : tooWide(pair) ? 1 : 2;
        if (what == 2) return pair == null ? 0 : 2;
        return pair == null ? -1 : pair[0] >= pair[1] ? pair[0] : pair[1];
    }

    private BigInteger[] speedOf(Part p) {
        if (jamOf(p) != null) return lowest(BigInteger.ZERO, BigInteger.ONE);
        BigInteger above = BigInteger.valueOf(now.shaft);
        BigInteger below = BigInteger.ONE;
        for (int[] pair : p.train) {
            above = above.multiply(BigInteger.valueOf(pair[0]));
            below = below.multiply(BigInteger.valueOf(pair[1]));
        }
        return lowest(above, below);
    }

    private static BigInteger[] lowest(BigInteger above, BigInteger below) {
        BigInteger d = above.gcd(below);
        return new BigInteger[] {above.divide(d), below.divide(d)};
    }

    public long speed(int part, int line) {
        if (!isPart(part) || !in(line, 0, 1)) return Long.MIN_VALUE;
        return speedOf(now.parts.get(part))[line].longValueExact();
    }

    // ---- turning

    public int turn(int n) {
        if (!in(n, 1, 99999)) return -2;
        if ((long) now.tick + n > 99999) return -4;
        now.tick += n;
        return now.tick;
    }

    private int placeOf(Part p, BigInteger[] speed, int t) {
        long way = p.phase + speed[0].longValueExact() * t / speed[1].longValueExact();
        if (p.kind == 1 || p.kind == 4) way = way * 2;
        if (p.kind == 3 || p.kind == 5) way = way + (long) p.figure * (t / 100);
        if (p.kind == 5) way = way / 64 * 64;
        return (int) (way % 1024);
    }

    private static long shapeAt(Part p, int i) {
        long wheel = i < 512 ? i * (512L - i) : -((i - 512) * (512L - (i - 512)));
        if (p.kind == 2) {
            long most = (p.figure + 1) * 6553L;
            if (wheel > most) return most;
            if (wheel < -most) return -most;
        }
        if (p.kind == 4) return wheel < 0 ? -(-wheel / 2) : wheel / 2;
        return wheel;
    }

    private long heightOfPart(Part p, int t) { return p.amp * shapeAt(p, placeOf(p, speedOf(p), t)); }

    private long h(int t) {
        long sum = 0;
        for (Part p : now.parts) {
            sum += heightOfPart(p, t);
        }
        return sum;
    }

    /** Heights of n ticks from f on. */
    private long[] heights(int f, int n) {
        long[] row = new long[n];
        for (Part p : now.parts) {
            BigInteger[] speed = speedOf(p);
            for (int i = 0; i < n; i++) {
                row[i] += p.amp * shapeAt(p, placeOf(p, speed, f + i));
            }
        }
        return row;
    }

    public long height() { return h(now.tick); }

    public long heightAt(int t) { return in(t, 0, 99999) ? h(t) : Long.MIN_VALUE; }

    public long heightOf(int part, int t) {
        return isPart(part) && in(t, 0, 99999) ? heightOfPart(now.parts.get(part), t) : Long.MIN_VALUE;
    }

    public int place(int part, int t) {
        if (!isPart(part) || !in(t, 0, 99999)) return -2;
        Part p = now.parts.get(part);
        return placeOf(p, speedOf(p), t);
    }

    // ---- waters

    /** By looking back from each tick: the latest of up and down ahead of it. */
    private List<Integer> found(int f, int n, boolean high) {
        long[] h = heights(f, n + 1);
        List<Integer> ticks = new ArrayList<>();
        for (int i = 1; i < n; i++) {
            int on = Long.compare(h[i + 1], h[i]);
            int back = i;
            while (back > 0 && h[back - 1] == h[back]) {
                back--;
            }
            int ahead = back == 0 ? 0 : Long.compare(h[back], h[back - 1]);
            if (high ? ahead > 0 && on < 0 : ahead < 0 && on > 0) ticks.add(f + i);
        }
        return ticks;
    }

    public int waters(int f, int n, int what) {
        if (!in(f, 0, 99999) || !in(n, 1, 2000) || !in(what, 0, 3)) return -2;
        List<Integer> ticks = found(f, n, what % 2 == 0);
        if (what < 2) return ticks.size();
        int best = -1;
        for (int t : ticks) {
            if (best == -1 || (what == 2 ? h(t) > h(best) : h(t) < h(best))) best = t;
        }
        return best;
    }

    public int water(int f, int n, int side, int k) {
        if (!in(f, 0, 99999) || !in(n, 1, 2000) || !in(side, 0, 1) || k < 0) return -2;
        List<Integer> ticks = found(f, n, side == 0);
        return k < ticks.size() ? ticks.get(k) : -1;
    }

    // ---- what was told

    private static long[] longsOf(Object sheet) {
        if (sheet instanceof long[] row) return row;
        return Arrays.stream((int[]) sheet).asLongStream().toArray();
    }

    public int tells(int sheet, int f, int what) {
        if (!in(sheet, 0, 3) || !in(f, 0, 99999) || !in(what, 0, 3)) return -2;
        if (sheets[sheet] == null) return -11;
        long[] told = longsOf(sheets[sheet]);
        if (told.length > 8) return -2;
        if (what == 0) {
            for (int i = 0; i < told.length; i++) {
                if (told[i] != h(f + i)) return i;
            }
            return -1;
        }
        int values = what == 1 ? 1024 : what == 2 ? 1000 : 6;
        for (int part = 0; part < now.parts.size(); part++) {
            Part p = now.parts.get(part);
            Part true1 = p.copy();
            int answer = -1;
            for (int v = 0; v < values && answer == -1; v++) {
                if (what == 1) p.phase = v;
                if (what == 2) p.amp = v;
                if (what == 3) p.kind = v;
                boolean all = true;
                for (int i = 0; i < told.length && all; i++) {
                    all = told[i] == h(f + i);
                }
                if (all) answer = values * part + v;
            }
            p.phase = true1.phase;
            p.amp = true1.amp;
            p.kind = true1.kind;
            if (answer != -1) return answer;
        }
        return -1;
    }

    public int refound(int sheet, int part, int f, int n, int what) {
        if (!in(sheet, 0, 3) || !isPart(part) || !in(f, 0, 99999) || !in(n, 1, 200) || !in(what, 0, 1)) return -2;
        if (sheets[sheet] == null) return -11;
        long[] told = longsOf(sheets[sheet]);
        if (told.length > 8) return -2;
        Part p = now.parts.get(part);
        int was = p.phase;
        List<Integer> phases = new ArrayList<>();
        for (p.phase = 0; p.phase < 1024; p.phase++) {
            List<Integer> highs = found(f, n, true);
            boolean fits = highs.size() >= told.length;
            for (int k = 0; k < told.length && fits; k++) {
                fits = highs.get(k) == told[k];
            }
            if (fits) phases.add(p.phase);
        }
        p.phase = was;
        return what == 0 ? phases.size() : phases.isEmpty() ? -1 : phases.get(0);
    }

    public int film(int sheet, int f, int n) {
        if (!in(sheet, 0, 3) || !in(f, 0, 99999) || !in(n, 0, 40)) return -2;
        sheets[sheet] = heights(f, n);
        return n;
    }

    // ---- gears, drifts

    public int nearest(int u, int v) {
        if (!in(u, 1, 9999) || !in(v, 1, 9999)) return -2;
        int bestA = 0;
        int bestB = 0;
        for (int a = 8; a <= 200; a++) {
            for (int b = 8; b <= 200; b++) {
                int[] pair = {a, b};
                if (tooWide(pair) || tooUnlike(pair)) continue;
                long off = Math.abs((long) a * v - (long) b * u);
                long best = Math.abs((long) bestA * v - (long) bestB * u);
                // off / (b v) against best / (bestB v)
                if (bestA == 0 || off * bestB < best * b) {
                    bestA = a;
                    bestB = b;
                }
            }
        }
        return 1000 * bestA + bestB;
    }

    public long off(int part, int uv, int n, int line) {
        if (!isPart(part) || uv < 0 || !in(uv / 10000, 1, 9999) || !in(uv % 10000, 1, 9999)) return Long.MIN_VALUE;
        if (!in(n, 0, 9999) || !in(line, 0, 1)) return Long.MIN_VALUE;
        BigInteger u = BigInteger.valueOf(uv / 10000);
        BigInteger v = BigInteger.valueOf(uv % 10000);
        BigInteger[] s = speedOf(now.parts.get(part));
        BigInteger above = s[0].multiply(v).subtract(u.multiply(s[1])).multiply(BigInteger.valueOf(n));
        return lowest(above, s[1].multiply(v))[line].longValueExact();
    }

    public int alike(int part) {
        if (part == -1) {
            TreeSet<String> speeds = new TreeSet<>();
            for (Part p : now.parts) {
                speeds.add(Arrays.toString(speedOf(p)));
            }
            return speeds.size();
        }
        if (!isPart(part)) return -2;
        int bits = 0;
        for (int i = 0; i < now.parts.size(); i++) {
            if (Arrays.equals(speedOf(now.parts.get(i)), speedOf(now.parts.get(part)))) bits += 1 << i;
        }
        return bits;
    }

    // ---- by lot

    public long drawn(int seed, int t) {
        if (!in(t, 0, 99999)) return Long.MIN_VALUE;
        State was = now;
        now = now.copy();
        BigInteger z = BigInteger.valueOf(seed);
        for (Part p : now.parts) {
            z = z.multiply(BigInteger.valueOf(1103515245)).add(BigInteger.valueOf(12345)).mod(BigInteger.ONE.shiftLeft(32));
            p.phase = z.shiftRight(9).mod(BigInteger.valueOf(1024)).intValue();
        }
        long height = h(t);
        now = was;
        return height;
    }

    public int chance(int seed, int m, int t, int w, int part) {
        if (!in(m, 1, 20) || !in(t, 0, 99999) || !in(part, 0, 1)) return -2;
        int high = 0;
        for (int i = 0; i < m; i++) {
            if (drawn(seed + i, t) >= w) high++;
        }
        return lowest(BigInteger.valueOf(high), BigInteger.valueOf(m))[part].intValue();
    }

    // ---- texts

    public int feed(int n, int a, int b, int c, int d, int e) {
        int[] bytes = {a, b, c, d, e};
        if (!in(n, 1, 5)) return -2;
        for (int v : bytes) {
            if (!in(v, 0, 255)) return -2;
        }
        if (tape.length() + n > 60) return -4;
        for (int i = 0; i < n; i++) {
            tape += (char) bytes[i];
        }
        return tape.length();
    }

    public int text() {
        String text = tape;
        tape = "";
        Matcher m = Pattern.compile("[ \n]+|[a-z]+|[0-9]+|;|(?s:.)").matcher(text);
        List<String> tokens = new ArrayList<>();
        List<Integer> places = new ArrayList<>();
        while (m.find()) {
            if (!m.group().isBlank() || m.group().matches("(?s)[^ \n].*")) {
                tokens.add(m.group());
                places.add(m.start());
            }
        }
        List<String> words = List.of("part", "gear", "shaft", "phase", "amp");
        int[] numbers = {4, 3, 1, 2, 2};
        List<int[]> clauses = new ArrayList<>();
        int at = 0;
        while (true) {
            int place = at < tokens.size() ? places.get(at) : text.length();
            if (at >= tokens.size() || !words.contains(tokens.get(at))) return -100 - place;
            int word = words.indexOf(tokens.get(at++));
            int[] clause = new int[1 + numbers[word]];
            clause[0] = word;
            for (int i = 1; i <= numbers[word]; i++) {
                place = at < tokens.size() ? places.get(at) : text.length();
                if (at >= tokens.size() || !tokens.get(at).matches("[0-9]{1,4}")) return -100 - place;
                clause[i] = Integer.parseInt(tokens.get(at++));
            }
            clauses.add(clause);
            if (at >= tokens.size()) break;
            if (!tokens.get(at).equals(";")) return -100 - places.get(at);
            at++;
        }
        int done = 0;
        for (int[] c : clauses) {
            int answer = c[0] == 0 ? part(c[1], c[2], c[3], c[4]) : c[0] == 1 ? gear(c[1], c[2], c[3])
                : c[0] == 2 ? shaft(c[1]) : c[0] == 3 ? set(c[1], 2, c[2]) : set(c[1], 1, c[2]);
            if (answer >= 0) done++;
        }
        return done;
    }

    // ---- the image, the host

    public int image() {
        kept = now.copy();
        return now.parts.size();
    }

    public int back() {
        if (kept == null) return -3;
        now = kept.copy();
        return now.parts.size();
    }

    public int load(int sheet, int sort, int from, int n) {
        if (!in(sheet, 0, 3) || !in(sort, 0, 1) || !in(n, 0, 6)) return -2;
        if (sheets[sheet] != null && (sheets[sheet] instanceof int[]) != (sort == 1)) return -13;
        if (sheets[sheet] == null) return -11;
        long[] row = longsOf(sheets[sheet]);
        int came = 0;
        for (int i = 0; i < n; i++) {
            int[] traits = new int[4];
            for (int j = 0; j < 4; j++) {
                long place = (long) from + 4 * i + j;
                if (!in(place, 0, row.length - 1)) return -12;
                traits[j] = (int) row[(int) place];
            }
            if (part(traits[0], traits[1], traits[2], traits[3]) >= 0) came++;
        }
        return came;
    }

    public int count(int what) {
        int pairs = 0;
        int jams = 0;
        for (Part p : now.parts) {
            pairs += p.train.size();
            jams += jamOf(p) != null ? 1 : 0;
        }
        int[] counts = {now.parts.size(), now.tick, tape.length(), pairs, jams, now.shaft};
        return in(what, 0, 5) ? counts[what] : -2;
    }

    public int sheet(int sheet, int sort, int n) {
        if (!in(sheet, 0, 3) || !in(sort, -1, 1)) return -2;
        if (sort == -1) {
            sheets[sheet] = null;
            return 1;
        }
        if (n > 40) return -2;
        if (n < 0) return -14;
        if (sort == 0) sheets[sheet] = new long[n];
        else sheets[sheet] = new int[n];
        return 1;
    }

    public int put(int sheet, int i, long v) {
        if (!in(sheet, 0, 3)) return -2;
        if (sheets[sheet] == null) return -11;
        if (!in(i, 0, longsOf(sheets[sheet]).length - 1)) return -12;
        if (sheets[sheet] instanceof int[] ints) ints[i] = (int) v;
        else ((long[]) sheets[sheet])[i] = v;
        return 1;
    }

    public long item(int sheet, int i) {
        if (!in(sheet, 0, 3) || sheets[sheet] == null) return Long.MIN_VALUE;
        long[] row = longsOf(sheets[sheet]);
        return in(i, 0, row.length - 1) ? row[i] : Long.MIN_VALUE;
    }

    public int copy(int sheet, int i, int other, int j, int n) {
        if (!in(sheet, 0, 3) || !in(other, 0, 3)) return -2;
        if (sheets[sheet] == null || sheets[other] == null) return -11;
        if (sheets[sheet].getClass() != sheets[other].getClass()) return -13;
        int m = longsOf(sheets[sheet]).length;
        int k = longsOf(sheets[other]).length;
        if (n < 0 || i < 0 || j < 0 || (long) i + n > m || (long) j + n > k) return -12;
        long[] was = longsOf(sheets[sheet]).clone();
        for (int l = 0; l < n; l++) {
            put(other, j + l, was[i + l]);
        }
        return n;
    }
}
