/** Promises 18 and 19: waters. */
final class WatersTest {
    private static final int NONE = -1, BAD = -2;

    private WatersTest() { }

    static void all() {
        Check.test("18: waters", WatersTest::waters);
        Check.test("18: waters, like ones and greater ones", WatersTest::likeOnes);
        Check.test("18: waters at a level stretch", WatersTest::levelStretch);
        Check.test("18: waters, refusals", WatersTest::watersRefused);
        Check.test("19: water", WatersTest::water);
        Check.test("19: water, refusals", WatersTest::waterRefused);
        Check.test("18, 19: from later ticks on", WatersTest::fromLater);
    }

    /** One wheel that turns by 64 a tick from phase 0: it is high at 4, 20, 36, .. and low at 12, 28, 44, .. */
    private static TideWheels plain() {
        TideWheels x = new TideWheels();
        x.part(0, 0, 3, 0);
        return x;
    }

    private static void watersAre(TideWheels x, int f, int n, int... due) {
        for (int what = 0; what < 4; what++) {
            Check.due("waters(" + f + ", " + n + ", " + what + ")", x.waters(f, n, what), due[what]);
        }
    }

    private static void waters() {
        TideWheels x = plain();
        watersAre(x, 0, 1, 0, 0, NONE, NONE);
        watersAre(x, 0, 4, 0, 0, NONE, NONE);
        watersAre(x, 0, 5, 1, 0, 4, NONE);
        watersAre(x, 0, 12, 1, 0, 4, NONE);
        watersAre(x, 0, 13, 1, 1, 4, 12);
        watersAre(x, 0, 37, 3, 2, 4, 12);
        watersAre(x, 0, 2000, 125, 125, 4, 12);
        watersAre(x, 0, 1996, 125, 124, 4, 12);
        watersAre(x, 0, 1988, 124, 124, 4, 12);
        watersAre(new TideWheels(), 0, 2000, 0, 0, NONE, NONE);
    }

    private static void fromLater() {
        TideWheels x = plain();
        // What came ahead of f doesn't count: at 4 itself it only goes down.
        watersAre(x, 4, 9, 0, 1, NONE, 12);
        watersAre(x, 3, 2, 1, 0, 4, NONE);
        watersAre(x, 4, 8, 0, 0, NONE, NONE);
        watersAre(x, 12, 9, 1, 0, 20, NONE);
        // 99999 is 15 modulo 16: highs at 100004, 100020, .., lows at 100012, ..
        watersAre(x, 99999, 2000, 125, 125, 100004, 100012);
        Check.due("water(99999, 2000, 0, 124)", x.water(99999, 2000, 0, 124), 100004 + 16 * 124);
        Check.due("water(99999, 2000, 0, 125)", x.water(99999, 2000, 0, 125), NONE);
    }

    private static void likeOnes() {
        TideWheels x = plain();
        x.part(0, 0, 1, 0);
        x.gear(1, 8, 16);
        // The second one, of half that speed, lifts the high at 4 and the low at 12, and lowers those at 20 and 28.
        int bestHigh = NONE;
        int bestLow = NONE;
        long high = 0;
        long low = 0;
        for (int t = 1; t < 100; t++) {
            long h = x.heightAt(t);
            if (h > x.heightAt(t - 1) && h > x.heightAt(t + 1) && (bestHigh == NONE || h > high)) {
                bestHigh = t;
                high = h;
            }
            if (h < x.heightAt(t - 1) && h < x.heightAt(t + 1) && (bestLow == NONE || h < low)) {
                bestLow = t;
                low = h;
            }
        }
        Check.due("greatest of highs", x.waters(0, 100, 2), bestHigh);
        Check.due("least of lows", x.waters(0, 100, 3), bestLow);
        Check.due("the least of lows isn't the first", bestLow, 28);
        Check.due("greatest of highs from 10 on", x.waters(10, 100, 2), 36);
    }

    private static void levelStretch() {
        TideWheels x = new TideWheels();
        x.part(2, 0, 5, 0);
        x.shaft(32);
        // At ticks 1 .. 15 the slot is at most 6553: a level stretch, and likewise below at 17 .. 31.
        Check.due("heightAt(1)", x.heightAt(1), 5 * 6553);
        Check.due("heightAt(15)", x.heightAt(15), 5 * 6553);
        watersAre(x, 0, 100, 3, 3, 15, 31);
        watersAre(x, 0, 15, 0, 0, NONE, NONE);
        watersAre(x, 0, 16, 1, 0, 15, NONE);
        // From within the stretch on it went neither way ahead of 15.
        watersAre(x, 1, 20, 0, 0, NONE, NONE);
        watersAre(x, 1, 31, 0, 1, NONE, 31);
        Check.due("water(0, 100, 0, 1)", x.water(0, 100, 0, 1), 47);
        // Up, level, up: no water in between.
        TideWheels steps = new TideWheels();
        steps.part(5, 0, 5, 0);
        steps.shaft(16);
        watersAre(steps, 0, 64, 1, 1, 19, 51);
        Check.due("water(0, 64, 0, 0)", steps.water(0, 64, 0, 0), 19);
    }

    private static void watersRefused() {
        TideWheels x = plain();
        int[][] bad = {
            {-1, 5, 0}, {100000, 5, 0}, {0, 0, 0}, {0, 2001, 0}, {0, -1, 0}, {0, 5, -1}, {0, 5, 4},
            {Integer.MAX_VALUE, 2000, 0}, {0, Integer.MAX_VALUE, 0}, {Integer.MIN_VALUE, 5, 0},
        };
        for (int[] b : bad) {
            Check.refused("waters, bad", x, () -> x.waters(b[0], b[1], b[2]), BAD);
        }
    }

    private static void water() {
        TideWheels x = plain();
        for (int k = 0; k < 125; k++) {
            Check.due("high " + k, x.water(0, 2000, 0, k), 4 + 16 * k);
            Check.due("low " + k, x.water(0, 2000, 1, k), 12 + 16 * k);
        }
        Check.due("no such high", x.water(0, 2000, 0, 125), NONE);
        Check.due("no such high", x.water(0, 4, 0, 0), NONE);
        Check.due("no such high", x.water(0, 1, 0, 0), NONE);
        Check.due("no such low", x.water(99999, 1, 1, 0), NONE);
        Check.due("the high at the end", x.water(0, 5, 0, 0), 4);
        Check.due("no such high", x.water(0, 2000, 0, Integer.MAX_VALUE), NONE);
        Check.due("no parts", new TideWheels().water(0, 2000, 1, 0), NONE);
    }

    private static void waterRefused() {
        TideWheels x = plain();
        int[][] bad = {
            {-1, 5, 0, 0}, {100000, 5, 0, 0}, {0, 0, 0, 0}, {0, 2001, 0, 0}, {0, 5, -1, 0}, {0, 5, 2, 0},
            {0, 5, 0, -1}, {0, 5, 1, Integer.MIN_VALUE}, {0, Integer.MIN_VALUE, 0, 0},
        };
        for (int[] b : bad) {
            Check.refused("water, bad", x, () -> x.water(b[0], b[1], b[2], b[3]), BAD);
        }
    }
}
