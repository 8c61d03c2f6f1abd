/** Promises 1 to 12: a new object, parts, gears. */
final class PartsTest {
    private static final int NONE = -1, BAD = -2, STATE = -3, FULL = -4;
    private static final long NO = Long.MIN_VALUE;

    private PartsTest() { }

    static void all() {
        Check.test("1: a new object", PartsTest::newObject);
        Check.test("2: part", PartsTest::part);
        Check.test("2: part behind dropped ones", PartsTest::partAgain);
        Check.test("3: drop", PartsTest::drop);
        Check.test("4: gear", PartsTest::gear);
        Check.test("5: ungear", PartsTest::ungear);
        Check.test("6: shaft", PartsTest::shaft);
        Check.test("7: set", PartsTest::set);
        Check.test("8: kind", PartsTest::kind);
        Check.test("9: of", PartsTest::of);
        Check.test("10: taken", PartsTest::taken);
        Check.test("11: jam", PartsTest::jam);
        Check.test("11: jam at the edges of what fits", PartsTest::jamEdges);
        Check.test("12: speed", PartsTest::speed);
        Check.test("12: speed, the greatest ones", PartsTest::greatSpeed);
    }

    /** Object with one part and no pairs. */
    private static TideWheels one(int kind, int figure, int amp, int phase) {
        TideWheels x = new TideWheels();
        x.part(kind, figure, amp, phase);
        return x;
    }

    private static void newObject() {
        TideWheels x = new TideWheels();
        int[] counts = {0, 0, 0, 0, 0, 64};
        for (int what = 0; what < counts.length; what++) {
            Check.due("count(" + what + ")", x.count(what), counts[what]);
        }
        Check.due("of(0, 0)", x.of(0, 0), BAD);
        Check.due("height()", x.height(), 0);
        Check.due("back()", x.back(), STATE);
        for (int sheet = 0; sheet < 4; sheet++) {
            Check.due("put(" + sheet + ", 0, 1)", x.put(sheet, 0, 1), -11);
        }
    }

    private static void part() {
        TideWheels x = new TideWheels();
        int[][] bad = {
            {-1, 0, 0, 0}, {6, 0, 0, 0}, {0, -1, 0, 0}, {0, 10, 0, 0}, {0, 0, -1, 0}, {0, 0, 1000, 0},
            {0, 0, 0, -1}, {0, 0, 0, 1024}, {Integer.MIN_VALUE, 0, 0, 0}, {0, 0, Integer.MAX_VALUE, 0},
        };
        for (int[] p : bad) {
            Check.refused("part, bad", x, () -> x.part(p[0], p[1], p[2], p[3]), BAD);
        }
        int[][] good = {
            {0, 0, 0, 0}, {5, 9, 999, 1023}, {1, 2, 3, 4}, {2, 3, 4, 5}, {3, 4, 5, 6}, {4, 5, 6, 7},
        };
        for (int i = 0; i < good.length; i++) {
            int[] p = good[i];
            Check.due("part " + i, x.part(p[0], p[1], p[2], p[3]), i);
        }
        for (int i = 0; i < good.length; i++) {
            for (int what = 0; what < 4; what++) {
                Check.due("of(" + i + ", " + what + ")", x.of(i, what), good[i][what]);
            }
        }
        Check.refused("a 7th part", x, () -> x.part(0, 0, 0, 0), FULL);
        Check.refused("a 7th part that is bad", x, () -> x.part(6, 0, 0, 0), BAD);
    }

    private static void partAgain() {
        TideWheels x = one(1, 2, 3, 4);
        x.gear(0, 20, 30);
        x.gear(0, 8, 200);
        x.drop();
        x.shaft(7);
        Check.due("part", x.part(2, 3, 4, 5), 0);
        Check.due("its kind", x.of(0, 0), 2);
        Check.due("its pairs", x.of(0, 4), 0);
        Check.due("its first a", x.of(0, 10), NONE);
        Check.due("its jam", x.jam(0, 0), NONE);
        Check.due("its speed above", x.speed(0, 0), 7);
        Check.due("its speed below", x.speed(0, 1), 1);
    }

    private static void drop() {
        TideWheels x = new TideWheels();
        Check.refused("drop of none", x, x::drop, STATE);
        x.part(1, 1, 1, 1);
        x.part(2, 2, 2, 2);
        x.gear(1, 9, 9);
        Check.due("drop", x.drop(), 1);
        Check.due("pairs of all", x.count(3), 0);
        Check.due("of(1, 0)", x.of(1, 0), BAD);
        Check.due("of(0, 0)", x.of(0, 0), 1);
        Check.due("drop", x.drop(), 0);
        Check.refused("drop of none", x, x::drop, STATE);
        Check.due("count(0)", x.count(0), 0);
    }

    private static void gear() {
        TideWheels x = one(0, 0, 1, 0);
        int[][] bad = {
            {1, 9, 9}, {-1, 9, 9}, {6, 9, 9}, {0, 7, 9}, {0, 201, 9}, {0, 9, 7}, {0, 9, 201},
            {Integer.MAX_VALUE, 9, 9}, {Integer.MIN_VALUE, 9, 9}, {0, Integer.MIN_VALUE, 9},
        };
        for (int[] g : bad) {
            Check.refused("gear, bad", x, () -> x.gear(g[0], g[1], g[2]), BAD);
        }
        Check.due("gear", x.gear(0, 8, 200), 1);
        Check.due("gear", x.gear(0, 200, 8), 2);
        Check.due("gear", x.gear(0, 100, 101), 3);
        Check.refused("a 4th pair", x, () -> x.gear(0, 9, 9), FULL);
        Check.refused("a 4th pair that is bad", x, () -> x.gear(0, 7, 9), BAD);
        int[] teeth = {x.of(0, 10), x.of(0, 20), x.of(0, 11), x.of(0, 21), x.of(0, 12), x.of(0, 22)};
        int[] due = {8, 200, 200, 8, 100, 101};
        for (int i = 0; i < due.length; i++) {
            Check.due("teeth " + i, teeth[i], due[i]);
        }
        x.part(0, 0, 1, 0);
        Check.due("gear of another part", x.gear(1, 9, 10), 1);
        Check.due("the first one's pairs", x.of(0, 4), 3);
    }

    private static void ungear() {
        TideWheels x = one(0, 0, 1, 0);
        Check.refused("ungear of no part", x, () -> x.ungear(1), BAD);
        Check.refused("ungear of no part", x, () -> x.ungear(-1), BAD);
        Check.refused("ungear of no pair", x, () -> x.ungear(0), STATE);
        x.gear(0, 20, 30);
        x.gear(0, 8, 200);
        Check.due("speed of a jammed train", x.speed(0, 0), 0);
        Check.due("ungear", x.ungear(0), 1);
        Check.due("speed above", x.speed(0, 0), 128);
        Check.due("speed below", x.speed(0, 1), 3);
        Check.due("of(0, 11)", x.of(0, 11), NONE);
        Check.due("of(0, 21)", x.of(0, 21), NONE);
        Check.due("of(0, 10)", x.of(0, 10), 20);
        Check.due("ungear", x.ungear(0), 0);
        Check.due("speed above", x.speed(0, 0), 64);
        Check.refused("ungear of no pair", x, () -> x.ungear(0), STATE);
    }

    private static void shaft() {
        TideWheels x = one(0, 0, 1, 0);
        x.part(0, 0, 1, 0);
        x.gear(1, 10, 30);
        for (int v : new int[] {0, -1, 1000, Integer.MIN_VALUE, Integer.MAX_VALUE}) {
            Check.refused("shaft(" + v + ")", x, () -> x.shaft(v), BAD);
        }
        Check.due("shaft(1)", x.shaft(1), 64);
        Check.due("speed(1, 0)", x.speed(1, 0), 1);
        Check.due("speed(1, 1)", x.speed(1, 1), 3);
        Check.due("shaft(999)", x.shaft(999), 1);
        Check.due("speed(0, 0)", x.speed(0, 0), 999);
        Check.due("speed(1, 0)", x.speed(1, 0), 333);
        Check.due("speed(1, 1)", x.speed(1, 1), 1);
        Check.due("shaft(999)", x.shaft(999), 999);
        Check.due("count(5)", x.count(5), 999);
    }

    private static void set() {
        TideWheels x = one(1, 2, 3, 4);
        int[] most = {9, 999, 1023};
        for (int what = 0; what < 3; what++) {
            int w = what;
            TideWheels y = one(1, 2, 3, 4);
            Check.refused("set below", y, () -> y.set(0, w, -1), BAD);
            Check.refused("set above", y, () -> y.set(0, w, most[w] + 1), BAD);
            Check.refused("set of no part", y, () -> y.set(1, w, 0), BAD);
            Check.refused("set of no part", y, () -> y.set(-1, w, 0), BAD);
            Check.due("set to the most", x.set(0, what, most[what]), what + 2);
            Check.due("set to the least", x.set(0, what, 0), most[what]);
            Check.due("set", x.set(0, what, what + 5), 0);
        }
        for (int what : new int[] {-1, 3, Integer.MIN_VALUE, Integer.MAX_VALUE}) {
            Check.refused("set(0, " + what + ", 0)", x, () -> x.set(0, what, 0), BAD);
        }
        int[] due = {1, 5, 6, 7};
        for (int what = 0; what < 4; what++) {
            Check.due("of(0, " + what + ")", x.of(0, what), due[what]);
        }
    }

    private static void kind() {
        TideWheels x = one(0, 2, 3, 4);
        x.gear(0, 20, 30);
        for (int k : new int[] {-1, 6, Integer.MIN_VALUE, Integer.MAX_VALUE}) {
            Check.refused("kind(0, " + k + ")", x, () -> x.kind(0, k), BAD);
        }
        Check.refused("kind(1, 0)", x, () -> x.kind(1, 0), BAD);
        Check.refused("kind(-1, 0)", x, () -> x.kind(-1, 0), BAD);
        for (int k = 1; k <= 5; k++) {
            Check.due("kind(0, " + k + ")", x.kind(0, k), k - 1);
        }
        Check.due("kind(0, 0)", x.kind(0, 0), 5);
        Check.due("kind(0, 0), as it was", x.kind(0, 0), 0);
        int[] due = {0, 2, 3, 4, 1};
        for (int what = 0; what < 5; what++) {
            Check.due("of(0, " + what + ")", x.of(0, what), due[what]);
        }
    }

    private static void of() {
        TideWheels x = one(5, 4, 321, 1000);
        x.gear(0, 10, 20);
        x.gear(0, 30, 40);
        int[] whats = {0, 1, 2, 3, 4, 10, 11, 12, 20, 21, 22};
        int[] due = {5, 4, 321, 1000, 2, 10, 30, NONE, 20, 40, NONE};
        for (int i = 0; i < whats.length; i++) {
            Check.due("of(0, " + whats[i] + ")", x.of(0, whats[i]), due[i]);
        }
        for (int what : new int[] {-1, 5, 9, 13, 19, 23, Integer.MIN_VALUE, Integer.MAX_VALUE}) {
            Check.due("of(0, " + what + ")", x.of(0, what), BAD);
        }
        for (int part : new int[] {-1, 1, 6, Integer.MIN_VALUE, Integer.MAX_VALUE}) {
            Check.due("of(" + part + ", 0)", x.of(part, 0), BAD);
        }
    }

    private static void taken() {
        boolean[][] isA = {
            {true, false, false, false, false, false},
            {true, true, false, false, false, false},
            {true, false, true, false, false, false},
            {true, false, false, true, false, false},
            {true, true, false, false, true, false},
            {true, false, false, true, false, true},
        };
        for (int own = 0; own < 6; own++) {
            TideWheels x = one(own, 1, 2, 700 + own);
            for (int k = 0; k < 6; k++) {
                Check.due("taken(0, " + k + ") of kind " + own, x.taken(0, k), isA[own][k] ? 700 + own : -13);
            }
            Check.due("taken(0, -1)", x.taken(0, -1), BAD);
            Check.due("taken(0, 6)", x.taken(0, 6), BAD);
            Check.due("taken(1, 0)", x.taken(1, 0), BAD);
            Check.due("taken(-1, 0)", x.taken(-1, 0), BAD);
        }
    }

    private static void jamIs(TideWheels x, int pair, int why, int causes, int teeth) {
        Check.due("jam(0, 0)", x.jam(0, 0), pair);
        Check.due("jam(0, 1)", x.jam(0, 1), why);
        Check.due("jam(0, 2)", x.jam(0, 2), causes);
        Check.due("jam(0, 3)", x.jam(0, 3), teeth);
    }

    private static void jam() {
        TideWheels x = one(0, 0, 1, 0);
        jamIs(x, NONE, 0, 0, NONE);
        x.gear(0, 100, 100);
        jamIs(x, NONE, 0, 0, NONE);
        x.gear(0, 160, 180);
        jamIs(x, 1, 1, 2, 180);
        x.gear(0, 200, 8);
        jamIs(x, 1, 1, 2, 180);
        x.ungear(0);
        x.ungear(0);
        x.gear(0, 200, 8);
        jamIs(x, 1, 2, 2, 200);
        x.ungear(0);
        x.ungear(0);
        x.gear(0, 8, 60);
        jamIs(x, 0, 2, 2, 60);
        x.ungear(0);
        x.gear(0, 151, 151);
        jamIs(x, 0, 1, 2, 151);
        for (int what : new int[] {-1, 4, Integer.MAX_VALUE}) {
            Check.due("jam(0, " + what + ")", x.jam(0, what), BAD);
        }
        Check.due("jam(1, 0)", x.jam(1, 0), BAD);
        Check.due("jam(-1, 0)", x.jam(-1, 0), BAD);
    }

    private static void jamEdges() {
        int[][] pairs = {
            {150, 150, 0}, {100, 200, 0}, {200, 100, 0}, {150, 151, 1}, {101, 200, 1}, {200, 200, 1},
            {8, 48, 0}, {48, 8, 0}, {8, 49, 2}, {49, 8, 2}, {33, 198, 0}, {33, 199, 2}, {198, 33, 0}, {199, 33, 2},
        };
        for (int[] pair : pairs) {
            TideWheels x = one(0, 0, 1, 0);
            x.gear(0, pair[0], pair[1]);
            Check.due("why " + pair[0] + " by " + pair[1], x.jam(0, 1), pair[2]);
        }
    }

    private static void speed() {
        TideWheels x = one(0, 0, 1, 0);
        Check.due("speed(0, 0)", x.speed(0, 0), 64);
        Check.due("speed(0, 1)", x.speed(0, 1), 1);
        x.gear(0, 50, 27);
        Check.due("speed(0, 0)", x.speed(0, 0), 3200);
        Check.due("speed(0, 1)", x.speed(0, 1), 27);
        x.gear(0, 54, 64);
        Check.due("speed(0, 0)", x.speed(0, 0), 100);
        Check.due("speed(0, 1)", x.speed(0, 1), 1);
        x.gear(0, 8, 200);
        Check.due("speed(0, 0), jammed", x.speed(0, 0), 0);
        Check.due("speed(0, 1), jammed", x.speed(0, 1), 1);
        Check.due("speed(0, 2)", x.speed(0, 2), NO);
        Check.due("speed(0, -1)", x.speed(0, -1), NO);
        Check.due("speed(1, 0)", x.speed(1, 0), NO);
        Check.due("speed(-1, 0)", x.speed(-1, 0), NO);
    }

    private static void greatSpeed() {
        TideWheels x = one(0, 0, 1, 0);
        x.shaft(997);
        x.gear(0, 199, 101);
        x.gear(0, 197, 103);
        x.gear(0, 191, 97);
        Check.due("speed(0, 0)", x.speed(0, 0), 997L * 199 * 197 * 191);
        Check.due("speed(0, 1)", x.speed(0, 1), 101L * 103 * 97);
    }
}
