/** Promises 20 to 22: what was told. */
final class ToldTest {
    private static final int NONE = -1, BAD = -2;

    private ToldTest() { }

    static void all() {
        Check.test("20: tells, TOLD", ToldTest::told);
        Check.test("20: tells, WRONG by PHASE", ToldTest::wrongByPhase);
        Check.test("20: tells, WRONG by AMP", ToldTest::wrongByAmp);
        Check.test("20: tells, WRONG by KIND", ToldTest::wrongByKind);
        Check.test("20: tells, the first part and the least", ToldTest::firstAndLeast);
        Check.test("20: tells by ints, by none, of no parts", ToldTest::oddSheets);
        Check.test("20: tells, refusals", ToldTest::tellsRefused);
        Check.test("21: refound", ToldTest::refound);
        Check.test("21: refound, fewer highs, rows of other sorts", ToldTest::refoundEdges);
        Check.test("21: refound with other parts", ToldTest::refoundAmongOthers);
        Check.test("21: refound, refusals", ToldTest::refoundRefused);
        Check.test("22: film", ToldTest::film);
        Check.test("22: film, refusals", ToldTest::filmRefused);
    }

    private static TideWheels three() {
        TideWheels x = new TideWheels();
        x.part(0, 0, 400, 10);
        x.part(1, 3, 150, 600);
        x.part(3, 7, 222, 300);
        x.shaft(21);
        x.gear(1, 33, 47);
        x.gear(2, 100, 99);
        return x;
    }

    private static void tellsAre(TideWheels x, int f, int... due) {
        for (int what = 0; what < 4; what++) {
            Check.due("tells(0, " + f + ", " + what + ")", x.tells(0, f, what), due[what]);
        }
    }

    private static void told() {
        TideWheels x = three();
        x.film(0, 100, 8);
        Check.due("as it is", x.tells(0, 100, 0), NONE);
        for (int i = 7; i >= 0; i--) {
            x.put(0, i, x.item(0, i) + 1);
            Check.due("otherwise from " + i, x.tells(0, 100, 0), i);
        }
        x.film(0, 101, 8);
        Check.due("another tick's", x.tells(0, 100, 0), 0);
        x.film(0, 99999, 8);
        Check.due("from the last tick on", x.tells(0, 99999, 0), NONE);
        x.film(0, 7, 3);
        x.set(2, 1, 0);
        x.set(2, 1, 222);
        Check.due("set and set back", x.tells(0, 7, 0), NONE);
    }

    private static void wrongByPhase() {
        TideWheels x = three();
        x.film(0, 40, 8);
        tellsAre(x, 40, NONE, 10, 400, 0);
        x.set(1, 2, 601);
        tellsAre(x, 40, 0, 1024 + 88, NONE, NONE);
        x.set(1, 2, 600);
        x.set(2, 2, 0);
        tellsAre(x, 40, 0, 2048 + 300, NONE, NONE);
        x.set(2, 2, 1023);
        tellsAre(x, 40, 0, 2048 + 300, NONE, NONE);
        x.set(0, 2, 9);
        tellsAre(x, 40, 0, NONE, NONE, NONE);
        x.set(2, 2, 300);
        tellsAre(x, 40, 0, 10, NONE, NONE);
    }

    private static void wrongByAmp() {
        TideWheels x = three();
        for (int amp : new int[] {0, 1, 998, 999}) {
            x.set(2, 1, amp);
            x.film(0, 40, 8);
            x.set(2, 1, 500);
            tellsAre(x, 40, 0, NONE, 2000 + amp, NONE);
        }
        x.set(0, 1, 401);
        tellsAre(x, 40, 0, NONE, NONE, NONE);
        TideWheels high = new TideWheels();
        high.part(0, 0, 5, 256);
        high.gear(0, 8, 200);
        sheetOf(high, 0, 0, 999L * 65536);
        tellsAre(high, 40, 0, NONE, 999, NONE);
        // No amp is 1000, and none is below 0.
        sheetOf(high, 0, 0, 1000L * 65536);
        tellsAre(high, 40, 0, NONE, NONE, NONE);
        sheetOf(high, 0, 0, -65536);
        tellsAre(high, 40, 0, NONE, NONE, NONE);
    }

    private static void wrongByKind() {
        TideWheels x = new TideWheels();
        x.part(0, 0, 400, 10);
        x.part(5, 7, 150, 333);
        x.shaft(37);
        x.gear(1, 33, 47);
        for (int kind = 0; kind < 6; kind++) {
            x.kind(1, kind);
            x.film(0, 440, 8);
            x.kind(1, kind == 4 ? 5 : 4);
            Check.due("told of kind " + kind, x.tells(0, 440, 0), 0);
            Check.due("wrong by kind " + kind, x.tells(0, 440, 3), 6 + kind);
        }
        x.set(0, 2, 11);
        Check.due("wrong by kind no more", x.tells(0, 440, 3), NONE);
    }

    private static void firstAndLeast() {
        TideWheels x = new TideWheels();
        x.part(0, 0, 0, 500);
        x.part(0, 0, 5, 500);
        x.part(0, 0, 5, 500);
        x.film(0, 3, 4);
        // By a part without an amp no phase changes a thing, so its least one tells all as it is.
        tellsAre(x, 3, NONE, 0, 0, 0);
        x.set(2, 2, 200);
        // Either of the two like ones could be the wrong one.
        x.set(1, 2, 200);
        x.film(0, 3, 4);
        x.set(1, 2, 500);
        tellsAre(x, 3, 0, 1024 + 200, NONE, NONE);
        x.set(1, 1, 6);
        x.set(1, 2, 200);
        Check.due("the first part by amp", x.tells(0, 3, 2), 1000 + 5);
        // Only half of its kinds and one tick: the least phase of two that do.
        TideWheels y = new TideWheels();
        y.part(0, 0, 5, 500);
        y.film(0, 0, 1);
        Check.due("12 and 500 are alike", y.tells(0, 0, 1), 12);
        Check.due("as it is", y.tells(0, 0, 2), 5);
        y.set(0, 2, 12);
        Check.due("as it is", y.tells(0, 0, 1), 12);
        y.sheet(0, 0, 1);
        y.put(0, 0, 999);
        tellsAre(y, 0, 0, NONE, NONE, NONE);
    }

    private static void oddSheets() {
        TideWheels x = new TideWheels();
        x.sheet(0, 1, 0);
        tellsAre(x, 5, NONE, NONE, NONE, NONE);
        x.sheet(0, 1, 8);
        tellsAre(x, 5, NONE, NONE, NONE, NONE);
        x.put(0, 7, 1);
        tellsAre(x, 5, 7, NONE, NONE, NONE);
        x.part(0, 0, 1, 1);
        x.sheet(0, 1, 0);
        tellsAre(x, 5, NONE, 0, 0, 0);
        x.gear(0, 8, 200);
        x.sheet(0, 1, 2);
        x.put(0, 0, 511);
        x.put(0, 1, 511);
        tellsAre(x, 99999, NONE, 1, 1, 0);
        x.put(0, 0, -511);
        x.put(0, 1, -511);
        tellsAre(x, 99999, 0, 513, NONE, NONE);
    }

    private static void tellsRefused() {
        int[][] calls = {
            {-1, 0, 0, BAD}, {4, 0, 0, BAD}, {1, -1, 0, BAD}, {1, 100000, 0, BAD}, {1, 0, -1, BAD}, {1, 0, 4, BAD},
            {2, 0, 0, -11}, {2, -1, 0, BAD}, {2, 0, 4, BAD}, {0, 0, 0, BAD}, {0, 0, 3, BAD}, {1, 0, 0, NONE},
            {Integer.MIN_VALUE, 0, 0, BAD}, {1, Integer.MAX_VALUE, 0, BAD},
        };
        for (int[] c : calls) {
            TideWheels x = three();
            x.film(0, 0, 9);
            x.film(1, 0, 8);
            Check.refused("tells", x, () -> x.tells(c[0], c[1], c[2]), c[3]);
        }
    }

    private static void sheetOf(TideWheels x, int sheet, int sort, long... items) {
        x.sheet(sheet, sort, items.length);
        for (int i = 0; i < items.length; i++) {
            x.put(sheet, i, items[i]);
        }
    }

    private static void refoundIs(TideWheels x, int part, int f, int n, int many, int least) {
        Check.due("refound, many", x.refound(0, part, f, n, 0), many);
        Check.due("refound, least", x.refound(0, part, f, n, 1), least);
    }

    private static void refound() {
        TideWheels x = new TideWheels();
        x.part(0, 0, 3, 77);
        sheetOf(x, 0, 0, 4, 20, 36);
        // By phases 993 .. 1023 and 0 .. 32 the wheel, by 64 a tick, is nearest to its height at tick 4 of ticks about;
        // those by which two ticks are alike go to the later one.
        int many = 0;
        int least = NONE;
        for (int phase = 1023; phase >= 0; phase--) {
            int first = NONE;
            for (int t = 1; t < 16 && first == NONE; t++) {
                if (at(phase, t) > at(phase, t + 1) && at(phase, t) >= at(phase, t - 1)) {
                    first = t;
                }
            }
            if (first == 4) {
                many++;
                least = phase;
            }
        }
        Check.due("how many there are by the test's own look", many, 64);
        refoundIs(x, 0, 0, 37, many, least);
        refoundIs(x, 0, 0, 200, many, least);
        refoundIs(x, 0, 0, 36, 0, NONE);
        sheetOf(x, 0, 0, 4);
        refoundIs(x, 0, 0, 5, many, least);
        refoundIs(x, 0, 0, 4, 0, NONE);
        sheetOf(x, 0, 0, 4, 20, 37);
        refoundIs(x, 0, 0, 100, 0, NONE);
        sheetOf(x, 0, 0, 20, 36);
        refoundIs(x, 0, 0, 100, 0, NONE);
        refoundIs(x, 0, 16, 100, many, least);
        refoundIs(x, 0, 5, 100, many, least);
    }

    /** The height of a wheel of amp 1 that goes 64 a tick. */
    private static int at(int phase, int t) {
        int place = (phase + 64 * t) % 1024;
        int past = place % 512;
        return place < 512 ? past * (512 - past) : -past * (512 - past);
    }

    private static void refoundEdges() {
        TideWheels x = new TideWheels();
        x.part(0, 0, 3, 77);
        x.sheet(0, 0, 0);
        refoundIs(x, 0, 0, 1, 1024, 0);
        x.sheet(0, 1, 0);
        refoundIs(x, 0, 99999, 200, 1024, 0);
        sheetOf(x, 0, 1, 100004, 100020, 100036, 100052, 100068, 100084, 100100, 100116);
        Check.due("eight from the last tick on", x.refound(0, 0, 99999, 200, 0), 64);
        sheetOf(x, 0, 1, 100004, 100020, 100036, 100052, 100068, 100084, 100100, 100117);
        refoundIs(x, 0, 99999, 200, 0, NONE);
        sheetOf(x, 0, 0, 4L + (1L << 32));
        refoundIs(x, 0, 0, 100, 0, NONE);
        sheetOf(x, 0, 0, -1);
        refoundIs(x, 0, 0, 100, 0, NONE);
        x.set(0, 1, 0);
        sheetOf(x, 0, 0, 4);
        refoundIs(x, 0, 0, 100, 0, NONE);
        x.sheet(0, 0, 0);
        refoundIs(x, 0, 0, 100, 1024, 0);
    }

    private static void refoundAmongOthers() {
        TideWheels x = three();
        int third = x.water(400, 200, 0, 2);
        Check.due("few enough to tell all of them", x.waters(third - 199, 200, 0) <= 8 ? 1 : 0, 1);
        for (int part = 0; part < 3; part++) {
            refoundByHand(part, 400, 200);
            // The latest of those told is at the last tick of all, or the first one right behind f.
            refoundByHand(part, third - 199, 200);
            refoundByHand(part, 400, third - 400 + 1);
            refoundByHand(part, third - 3, 4);
            refoundByHand(part, third - 1, 30);
            for (int n = 2; n < 24; n++) {
                refoundByHand(part, 100 + 7 * n, n);
            }
        }
    }

    /** Tells the highs as they are, and then tries all phases one by one. */
    private static void refoundByHand(int part, int f, int n) {
        TideWheels x = three();
        int told = Math.min(8, x.waters(f, n, 0));
        int[] highs = new int[told];
        x.sheet(0, 0, told);
        for (int k = 0; k < told; k++) {
            highs[k] = x.water(f, n, 0, k);
            x.put(0, k, highs[k]);
        }
        int many = 0;
        int least = NONE;
        TideWheels tried = three();
        for (int p = 1023; p >= 0; p--) {
            if (p % 32 == 0) {
                tried = three();
            }
            tried.set(part, 2, p);
            boolean fits = true;
            for (int k = 0; k < told && fits; k++) {
                int high = tried.water(f, n, 0, k);
                fits = high != NONE && high == highs[k];
            }
            if (fits) {
                many++;
                least = p;
            }
        }
        refoundIs(x, part, f, n, many, least);
    }

    private static void refoundRefused() {
        int[][] calls = {
            {-1, 0, 0, 5, 0, BAD}, {4, 0, 0, 5, 0, BAD}, {1, 3, 0, 5, 0, BAD}, {1, -1, 0, 5, 0, BAD},
            {1, 0, -1, 5, 0, BAD}, {1, 0, 100000, 5, 0, BAD}, {1, 0, 0, 0, 0, BAD}, {1, 0, 0, 201, 0, BAD},
            {1, 0, 0, 5, -1, BAD}, {1, 0, 0, 5, 2, BAD}, {2, 0, 0, 5, 0, -11}, {2, 3, 0, 5, 0, BAD},
            {2, 0, 0, 201, 0, BAD}, {2, 0, 0, 5, 2, BAD}, {0, 0, 0, 5, 0, BAD}, {0, 0, 0, 5, 1, BAD},
            {1, 0, 0, 200, 0, 0}, {1, 2, 99999, 1, 1, NONE},
        };
        for (int[] c : calls) {
            TideWheels x = three();
            x.sheet(0, 0, 9);
            x.sheet(1, 0, 8);
            Check.refused("refound", x, () -> x.refound(c[0], c[1], c[2], c[3], c[4]), c[5]);
        }
    }

    private static void film() {
        TideWheels x = three();
        x.sheet(3, 1, 7);
        x.put(3, 6, 5);
        Check.due("film", x.film(3, 10, 40), 40);
        for (int i = 0; i < 40; i++) {
            Check.due("item(3, " + i + ")", x.item(3, i), x.heightAt(10 + i));
        }
        Check.due("item(3, 40)", x.item(3, 40), TideWheels.NO);
        Check.due("film of fewer", x.film(3, 99990, 10), 10);
        Check.due("item(3, 9)", x.item(3, 9), x.heightAt(99999));
        Check.due("item(3, 10)", x.item(3, 10), TideWheels.NO);
        Check.due("of longs now", x.put(3, 0, 1L << 40), 1);
        Check.due("item(3, 0)", x.item(3, 0), 1L << 40);
        Check.due("film of none", x.film(0, 0, 0), 0);
        Check.due("it isn't missing", x.put(0, 0, 1), -12);
        Check.due("film beyond the last tick", x.film(1, 99999, 2), 2);
        x.drop();
        x.drop();
        x.kind(0, 0);
        Check.due("film beyond the last tick", x.film(1, 99999, 2), 2);
        int past = (10 + 21 * 100000) % 1024;
        Check.due("item(1, 1)", x.item(1, 1), (past < 512 ? 400L : -400L) * (past % 512) * (512 - past % 512));
    }

    private static void filmRefused() {
        int[][] bad = {
            {-1, 0, 1}, {4, 0, 1}, {1, -1, 1}, {1, 100000, 0}, {1, 0, -1}, {1, 0, 41},
            {1, 0, Integer.MIN_VALUE}, {1, Integer.MAX_VALUE, 1}, {2, 0, 41},
        };
        for (int[] b : bad) {
            TideWheels x = three();
            x.sheet(1, 1, 3);
            Check.refused("film, bad", x, () -> x.film(b[0], b[1], b[2]), BAD);
        }
    }
}
