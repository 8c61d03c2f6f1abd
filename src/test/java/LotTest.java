/** Promises 26 and 27: by lot. */
final class LotTest {
    private static final int BAD = -2;
    private static final long NO = Long.MIN_VALUE;

    private LotTest() { }

    static void all() {
        Check.test("26: drawn", LotTest::drawn);
        Check.test("26: drawn, refusals", LotTest::drawnRefused);
        Check.test("27: chance", LotTest::chance);
        Check.test("27: chance over the end of ints", LotTest::chanceWraps);
        Check.test("27: chance, refusals", LotTest::chanceRefused);
    }

    private static TideWheels parts() {
        TideWheels x = new TideWheels();
        x.part(0, 0, 500, 1);
        x.part(4, 3, 300, 2);
        x.part(5, 9, 200, 3);
        x.part(2, 1, 100, 4);
        x.gear(1, 20, 31);
        x.gear(2, 8, 200);
        return x;
    }

    /** Sets the phases that a seed draws, asks, and sets them back. */
    private static long byHand(TideWheels x, int seed, int t) {
        int[] was = new int[6];
        long z = seed;
        for (int part = 0; part < x.count(0); part++) {
            z = (z * 1103515245L + 12345L) & 0xFFFFFFFFL;
            was[part] = x.set(part, 2, (int) ((z >> 9) & 1023));
        }
        long height = x.heightAt(t);
        for (int part = 0; part < x.count(0); part++) {
            x.set(part, 2, was[part]);
        }
        return height;
    }

    private static void drawn() {
        for (int seed : new int[] {0, 1, 7, -1, 123456789, Integer.MAX_VALUE, Integer.MIN_VALUE}) {
            TideWheels x = parts();
            for (int t : new int[] {0, 1, 50, 777, 99999}) {
                long due = byHand(x, seed, t);
                Check.refused("drawn(" + seed + ", " + t + ")", x, () -> x.drawn(seed, t), due);
            }
        }
        TideWheels one = new TideWheels();
        one.part(0, 0, 1, 0);
        // Of seed 0 z is 12345, and that by 512 is 24.
        Check.due("drawn(0, 0)", one.drawn(0, 0), 24 * (512 - 24));
        Check.due("no parts", new TideWheels().drawn(5, 5), 0);
    }

    private static void drawnRefused() {
        TideWheels x = parts();
        for (int t : new int[] {-1, 100000, Integer.MIN_VALUE, Integer.MAX_VALUE}) {
            Check.due("drawn(1, " + t + ")", x.drawn(1, t), NO);
        }
    }

    private static int divisor(int a, int b) {
        return b == 0 ? a : divisor(b, a % b);
    }

    private static void chanceIs(int seed, int m, int t, int w) {
        TideWheels x = parts();
        int high = 0;
        for (int i = 0; i < m; i++) {
            if (byHand(x, seed + i, t) >= w) {
                high++;
            }
        }
        int d = divisor(high, m);
        String call = "chance(" + seed + ", " + m + ", " + t + ", " + w;
        int above = high / d;
        int below = m / d;
        Check.refused(call + ", 0)", x, () -> x.chance(seed, m, t, w, 0), above);
        Check.due(call + ", 1)", x.chance(seed, m, t, w, 1), below);
    }

    private static void chance() {
        TideWheels x = parts();
        for (int m : new int[] {1, 2, 6, 12, 20}) {
            for (int w : new int[] {0, -20000000, 10000000, Integer.MIN_VALUE, Integer.MAX_VALUE}) {
                chanceIs(7, m, 50, w);
                chanceIs(-m / 2, m, 99999, w);
            }
        }
        int just = (int) x.drawn(3, 9);
        Check.due("just as high", x.chance(3, 1, 9, just, 0), 1);
        Check.due("one higher", x.chance(3, 1, 9, just + 1, 0), 0);
        Check.due("one higher, below the line", x.chance(3, 20, 9, Integer.MAX_VALUE, 1), 1);
        Check.due("no parts", new TideWheels().chance(3, 20, 9, 0, 0), 1);
        Check.due("no parts", new TideWheels().chance(3, 20, 9, 0, 1), 1);
        Check.due("no parts", new TideWheels().chance(3, 20, 9, 1, 0), 0);
    }

    private static void chanceWraps() {
        chanceIs(Integer.MAX_VALUE - 3, 20, 50, 0);
        chanceIs(Integer.MAX_VALUE, 7, 50, 1000000);
    }

    private static void chanceRefused() {
        int[][] bad = {
            {1, 0, 5, 0, 0}, {1, -1, 5, 0, 0}, {1, 21, 5, 0, 0}, {1, 3, -1, 0, 0}, {1, 3, 100000, 0, 0},
            {1, 3, 5, 0, -1}, {1, 3, 5, 0, 2}, {1, Integer.MIN_VALUE, 5, 0, 0},
        };
        for (int[] b : bad) {
            TideWheels x = parts();
            Check.refused("chance, bad", x, () -> x.chance(b[0], b[1], b[2], b[3], b[4]), BAD);
        }
    }
}
