/** Promises 23 to 25: gears, drifts. */
final class GearsTest {
    private static final int NONE = -1, BAD = -2;
    private static final long NO = Long.MIN_VALUE;

    private GearsTest() { }

    static void all() {
        Check.test("23: nearest", GearsTest::nearest);
        Check.test("23: nearest, by a look at all pairs", GearsTest::nearestOfAll);
        Check.test("23: nearest, refusals", GearsTest::nearestRefused);
        Check.test("24: off", GearsTest::off);
        Check.test("24: off, the greatest ones", GearsTest::offGreat);
        Check.test("24: off, refusals", GearsTest::offRefused);
        Check.test("25: alike", GearsTest::alike);
        Check.test("25: alike, groups", GearsTest::groups);
    }

    private static void nearest() {
        TideWheels x = new TideWheels();
        int[][] due = {
            {1, 1, 8008}, {6, 1, 48008}, {1, 6, 8048}, {9999, 1, 48008}, {1, 9999, 8048}, {9999, 9999, 8008},
            {27, 100, 27100}, {200, 99, 200099}, {3, 2, 12008}, {2, 3, 8012}, {355, 113, 179057},
            {99, 200, 99200}, {100, 200, 8016}, {101, 198, 101198},
        };
        for (int[] d : due) {
            Check.due("nearest(" + d[0] + ", " + d[1] + ")", x.nearest(d[0], d[1]), d[2]);
        }
    }

    /** By doubles for what is plainly less, and by whole numbers where two are near. */
    private static void nearestOfAll() {
        TideWheels x = new TideWheels();
        int[][] asked = {{577, 408}, {5, 17}, {4999, 5000}, {9998, 9999}, {201, 100}, {1, 5}, {997, 331}, {200, 101}};
        for (int[] q : asked) {
            int best = NONE;
            for (int a = 8; a <= 200; a++) {
                for (int b = 8; b <= 200; b++) {
                    boolean fits = a + b <= 300 && a <= 6 * b && b <= 6 * a;
                    if (fits && (best == NONE || isLess(q, a, b, best / 1000, best % 1000))) {
                        best = 1000 * a + b;
                    }
                }
            }
            Check.due("nearest(" + q[0] + ", " + q[1] + ")", x.nearest(q[0], q[1]), best);
        }
    }

    /** Whether a by b is less off than c by d. */
    private static boolean isLess(int[] q, int a, int b, int c, int d) {
        long one = Math.abs((long) a * q[1] - (long) b * q[0]) * d;
        long other = Math.abs((long) c * q[1] - (long) d * q[0]) * b;
        return one < other;
    }

    private static void nearestRefused() {
        TideWheels x = new TideWheels();
        int[][] bad = {
            {0, 1}, {1, 0}, {10000, 1}, {1, 10000}, {-1, 1}, {1, -1},
            {Integer.MIN_VALUE, 1}, {1, Integer.MAX_VALUE},
        };
        for (int[] b : bad) {
            Check.due("nearest(" + b[0] + ", " + b[1] + ")", x.nearest(b[0], b[1]), BAD);
        }
    }

    private static void offIs(TideWheels x, int uv, int n, long above, long below) {
        Check.due("off(0, " + uv + ", " + n + ", 0)", x.off(0, uv, n, 0), above);
        Check.due("off(0, " + uv + ", " + n + ", 1)", x.off(0, uv, n, 1), below);
    }

    private static void off() {
        TideWheels x = new TideWheels();
        x.part(0, 0, 1, 0);
        offIs(x, 640001, 5, 0, 1);
        offIs(x, 640001, 0, 0, 1);
        offIs(x, 650001, 5, -5, 1);
        offIs(x, 630001, 5, 5, 1);
        offIs(x, 10003, 1, 191, 3);
        offIs(x, 10003, 3, 191, 1);
        offIs(x, 10003, 9999, 191 * 3333, 1);
        x.gear(0, 50, 27);
        // 3200 by 27 less 119 by 1 is -13 by 27.
        offIs(x, 1190001, 1, -13, 27);
        offIs(x, 1190001, 6, -26, 9);
        offIs(x, 99990001, 1, 3200 - 9999 * 27, 27);
        x.gear(0, 8, 200);
        offIs(x, 30007, 2, -6, 7);
        offIs(x, 30007, 14, -6, 1);
    }

    private static void offGreat() {
        TideWheels x = new TideWheels();
        x.part(0, 0, 1, 0);
        x.shaft(997);
        x.gear(0, 199, 101);
        x.gear(0, 197, 103);
        x.gear(0, 191, 97);
        long above = 997L * 199 * 197 * 191;
        long below = 101L * 103 * 97;
        offIs(x, 10000 * 9999 + 9973, 9997, (above * 9973 - below * 9999) * 9997, below * 9973);
    }

    private static void offRefused() {
        TideWheels x = new TideWheels();
        x.part(0, 0, 1, 0);
        int[][] bad = {
            {1, 10001, 1, 0}, {-1, 10001, 1, 0}, {0, 0, 1, 0}, {0, 1, 1, 0}, {0, 9999, 1, 0}, {0, 10000, 1, 0},
            {0, 20000, 1, 0}, {0, 100000000, 1, 0}, {0, 100000001, 1, 0}, {0, -10001, 1, 0}, {0, -1, 1, 0},
            {0, Integer.MIN_VALUE, 1, 0}, {0, Integer.MAX_VALUE, 1, 0}, {0, 10001, -1, 0}, {0, 10001, 10000, 0},
            {0, 10001, 1, -1}, {0, 10001, 1, 2},
        };
        for (int[] b : bad) {
            Check.due("off, bad", x.off(b[0], b[1], b[2], b[3]), NO);
        }
        Check.due("off(0, 99999999, 9999, 1)", x.off(0, 99999999, 9999, 1), 1);
        Check.due("off(0, 99999999, 9999, 0)", x.off(0, 99999999, 9999, 0), 63 * 9999);
    }

    private static TideWheels six() {
        TideWheels x = new TideWheels();
        for (int i = 0; i < 6; i++) {
            x.part(i, i, i, i);
        }
        x.gear(1, 20, 30);
        x.gear(2, 40, 60);
        x.gear(3, 8, 200);
        x.gear(4, 200, 200);
        x.gear(5, 20, 30);
        x.gear(5, 30, 20);
        return x;
    }

    private static void alike() {
        TideWheels x = six();
        int[] due = {1 + 32, 2 + 4, 2 + 4, 8 + 16, 8 + 16, 1 + 32};
        for (int part = 0; part < 6; part++) {
            Check.due("alike(" + part + ")", x.alike(part), due[part]);
        }
        Check.due("alike(6)", x.alike(6), BAD);
        Check.due("alike(-2)", x.alike(-2), BAD);
        Check.due("alike(MIN)", x.alike(Integer.MIN_VALUE), BAD);
        x.drop();
        Check.due("alike(0)", x.alike(0), 1);
        Check.due("alike(5)", x.alike(5), BAD);
        // Like ones above the line, and unlike ones below it.
        x.ungear(4);
        x.gear(4, 10, 45);
        x.gear(0, 10, 75);
        Check.due("alike(0), jammed", x.alike(0), 1 + 8);
        x.ungear(0);
        x.gear(0, 10, 25);
        Check.due("speed(0, 0)", x.speed(0, 0), 128);
        Check.due("speed(1, 0)", x.speed(1, 0), 128);
        Check.due("alike(0)", x.alike(0), 1);
    }

    private static void groups() {
        Check.due("alike(-1) of no parts", new TideWheels().alike(NONE), 0);
        TideWheels x = six();
        Check.due("alike(-1)", x.alike(NONE), 3);
        x.gear(0, 10, 11);
        Check.due("alike(-1)", x.alike(NONE), 4);
        x.gear(1, 10, 11);
        Check.due("alike(-1)", x.alike(NONE), 5);
        x.gear(3, 10, 11);
        Check.due("alike(-1)", x.alike(NONE), 5);
        x.ungear(4);
        x.gear(4, 100, 103);
        Check.due("alike(-1)", x.alike(NONE), 6);
    }
}
