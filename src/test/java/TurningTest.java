/** Promises 13 to 17: turning. */
final class TurningTest {
    private static final int BAD = -2, FULL = -4;
    private static final long NO = Long.MIN_VALUE;

    private TurningTest() { }

    static void all() {
        Check.test("13: turn", TurningTest::turn);
        Check.test("14: height", TurningTest::height);
        Check.test("15: heightAt", TurningTest::heightAt);
        Check.test("16: heightOf, a wheel's shape", TurningTest::wheelShape);
        Check.test("16: heightOf, a slot's shape", TurningTest::slotShape);
        Check.test("16: heightOf, a half's shape", TurningTest::halfShape);
        Check.test("16: heightOf, refusals", TurningTest::heightOfRefused);
        Check.test("17: place by kinds", TurningTest::placeByKinds);
        Check.test("17: place, cut", TurningTest::placeCut);
        Check.test("17: place, a jammed part's", TurningTest::placeJammed);
        Check.test("17: place, far on and fast", TurningTest::placeFar);
        Check.test("17: place, refusals", TurningTest::placeRefused);
    }

    private static TideWheels one(int kind, int figure, int amp, int phase) {
        TideWheels x = new TideWheels();
        x.part(kind, figure, amp, phase);
        return x;
    }

    private static void turn() {
        TideWheels x = new TideWheels();
        for (int n : new int[] {0, -1, 100000, Integer.MIN_VALUE, Integer.MAX_VALUE}) {
            Check.refused("turn(" + n + ")", x, () -> x.turn(n), BAD);
        }
        Check.due("turn(1)", x.turn(1), 1);
        Check.due("count(1)", x.count(1), 1);
        Check.refused("turn(99999)", x, () -> x.turn(99999), FULL);
        Check.due("turn(99998)", x.turn(99998), 99999);
        Check.refused("turn(1)", x, () -> x.turn(1), FULL);
        Check.refused("turn(100000)", x, () -> x.turn(100000), BAD);
        Check.due("turn(99999) of a new one", new TideWheels().turn(99999), 99999);
    }

    private static void height() {
        TideWheels x = one(0, 0, 2, 1);
        x.part(0, 0, 3, 513);
        x.shaft(1);
        Check.due("height()", x.height(), 2 * 511 - 3 * 511);
        x.turn(2);
        Check.due("height()", x.height(), 2 * 3 * 509 - 3 * 3 * 509);
        x.turn(510);
        Check.due("height()", x.height(), -2 * 511 + 3 * 511);
    }

    private static void heightAt() {
        TideWheels x = one(0, 0, 999, 0);
        x.part(0, 0, 999, 0);
        x.part(0, 0, 1, 512);
        x.shaft(1);
        x.turn(77);
        Check.due("heightAt(0)", x.heightAt(0), 0);
        Check.due("heightAt(256)", x.heightAt(256), 2 * 999 * 65536 - 65536);
        Check.due("heightAt(768)", x.heightAt(768), -2 * 999 * 65536 + 65536);
        // 99999 modulo 1024 is 671, 159 behind the half.
        Check.due("heightAt(99999)", x.heightAt(99999), -1997L * 159 * 353);
        for (int t : new int[] {-1, 100000, Integer.MIN_VALUE, Integer.MAX_VALUE}) {
            Check.due("heightAt(" + t + ")", x.heightAt(t), NO);
        }
    }

    private static void shapeIs(int kind, int figure, int[] places, int[] shapes) {
        for (int i = 0; i < places.length; i++) {
            TideWheels x = one(kind, figure, 7, places[i]);
            Check.due("heightOf at " + places[i], x.heightOf(0, 0), 7L * shapes[i]);
        }
    }

    private static void wheelShape() {
        int[] places = {0, 1, 100, 256, 511, 512, 513, 768, 1023};
        int[] shapes = {0, 511, 41200, 65536, 511, 0, -511, -65536, -511};
        shapeIs(0, 9, places, shapes);
        shapeIs(3, 9, places, shapes);
    }

    private static void slotShape() {
        int[] places = {0, 1, 13, 14, 256, 511, 512, 513, 525, 526, 768, 1023};
        shapeIs(2, 0, places, new int[] {0, 511, 6487, 6553, 6553, 511, 0, -511, -6487, -6553, -6553, -511});
        shapeIs(2, 4, new int[] {256, 768, 70, 80}, new int[] {32765, -32765, 30940, 32765});
        shapeIs(2, 9, new int[] {256, 768, 250, 762}, new int[] {65530, -65530, 65500, -65500});
    }

    private static void halfShape() {
        // A half's way is twice a wheel's, so a place is twice its phase.
        for (int phase : new int[] {0, 1, 3, 128, 255, 256, 257, 300, 384, 511, 512, 513, 1023}) {
            int place = 2 * phase % 1024;
            int past = place % 512;
            int wheel = (place < 512 ? 1 : -1) * past * (512 - past);
            Check.due("a half's height", one(4, 9, 10, phase).heightOf(0, 0), 10L * (wheel / 2));
        }
    }

    private static void heightOfRefused() {
        TideWheels x = one(0, 0, 1, 1);
        x.part(0, 0, 2, 1);
        Check.due("heightOf(1, 0)", x.heightOf(1, 0), 2 * 511);
        Check.due("heightOf(0, 99999)", x.heightOf(0, 99999) == NO ? 1 : 0, 0);
        Check.due("heightOf(2, 0)", x.heightOf(2, 0), NO);
        Check.due("heightOf(-1, 0)", x.heightOf(-1, 0), NO);
        Check.due("heightOf(0, -1)", x.heightOf(0, -1), NO);
        Check.due("heightOf(0, 100000)", x.heightOf(0, 100000), NO);
    }

    private static void placeByKinds() {
        // The shaft goes 3: at tick 250 a wheel's way is 100 and 750, its place 850.
        int[] due = {850, 1700 % 1024, 850, 850 + 7 * 2, 1700 % 1024, 864 - 864 % 64};
        for (int kind = 0; kind < 6; kind++) {
            TideWheels x = one(kind, 7, 1, 100);
            x.shaft(3);
            Check.due("place of kind " + kind, x.place(0, 250), due[kind]);
        }
        TideWheels drift = one(3, 9, 1, 0);
        drift.shaft(1);
        Check.due("drift at 99", drift.place(0, 99), 99);
        Check.due("drift at 100", drift.place(0, 100), 109);
        Check.due("drift at 199", drift.place(0, 199), 208);
        Check.due("drift at 99999", drift.place(0, 99999), (99999 + 9 * 999) % 1024);
        TideWheels latch = one(5, 1, 1, 63);
        latch.shaft(1);
        Check.due("latch at 0", latch.place(0, 0), 0);
        Check.due("latch at 1", latch.place(0, 1), 64);
        Check.due("latch at 64", latch.place(0, 64), 64);
        Check.due("latch at 65", latch.place(0, 65), 128);
        Check.due("latch at 100", latch.place(0, 100), 128);
        Check.due("latch at 960", latch.place(0, 960), 0);
    }

    private static void placeCut() {
        TideWheels x = one(0, 0, 1, 10);
        x.part(1, 0, 1, 10);
        x.shaft(1);
        x.gear(0, 20, 30);
        x.gear(1, 20, 30);
        int[] due = {10, 10, 11, 12, 12, 13};
        for (int t = 0; t < due.length; t++) {
            Check.due("place(0, " + t + ")", x.place(0, t), due[t]);
            Check.due("twin: place(1, " + t + ")", x.place(1, t), 2 * due[t]);
        }
    }

    private static void placeJammed() {
        int[] due = {100, 200, 100, 107, 200, 64};
        for (int kind = 0; kind < 6; kind++) {
            TideWheels x = one(kind, 7, 1, 100);
            x.gear(0, 8, 200);
            Check.due("place of a jammed one of kind " + kind, x.place(0, 150), due[kind]);
        }
    }

    private static void placeFar() {
        TideWheels x = one(4, 0, 1, 1023);
        x.shaft(999);
        x.gear(0, 200, 34);
        x.gear(0, 200, 34);
        x.gear(0, 200, 34);
        long way = 1023 + 99999L * 999 * 200 * 200 * 200 / (34 * 34 * 34);
        Check.due("place(0, 99999)", x.place(0, 99999), 2 * way % 1024);
    }

    private static void placeRefused() {
        TideWheels x = one(0, 0, 1, 1);
        Check.due("place(1, 0)", x.place(1, 0), BAD);
        Check.due("place(-1, 0)", x.place(-1, 0), BAD);
        Check.due("place(0, -1)", x.place(0, -1), BAD);
        Check.due("place(0, 100000)", x.place(0, 100000), BAD);
        Check.due("place(0, 99999)", x.place(0, 99999), (1 + 64 * 99999) % 1024);
    }
}
