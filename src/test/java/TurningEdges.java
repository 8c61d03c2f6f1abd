import java.util.function.Consumer;

/** The boundaries of promises 13 to 17, and of WAY, SHAPE and PLACE. */
final class TurningEdges extends Edge {
    private TurningEdges() { }

    static void all() {
        turn();
        height();
        heightAt();
        heightOf();
        shape();
        place();
        way();
    }

    private static void turn() {
        edge("13: by 1 TICK, the least", x -> {
            due(x.turn(1), 1);
            due(x.turn(1), 2);
            due(x.count(1), 2);
        });
        edge("13: by 99999 TICKS at once, the most", x -> {
            due(x.turn(99999), 99999);
            due(x.count(1), 99999);
        });
        edge("13: 99999 is reached, not only neared", x -> {
            x.turn(50000);
            due(x.turn(49999), 99999);
        });
        refuses("13: n below 1 is BAD", RICH, BAD, x -> x.turn(0), x -> x.turn(-1), x -> x.turn(LEAST));
        refuses("13: n above 99999 is BAD", RICH, BAD, x -> x.turn(100000), x -> x.turn(MOST));
        refuses("13: above 99999 by one is FULL", x -> x.turn(1), FULL, x -> x.turn(99999));
        refuses("13: any turn beyond the last TICK is FULL", x -> {
            RICH.accept(x);
            x.turn(99999 - 77);
        }, FULL, x -> x.turn(1), x -> x.turn(99999));
        refuses("13: a number that is none such is BAD, ahead of FULL", x -> x.turn(99999), BAD, x -> x.turn(0),
            x -> x.turn(-1), x -> x.turn(100000));
    }

    private static void height() {
        edge("14: without PARTS the height is 0", x -> {
            due(x.height(), 0);
            x.turn(99999);
            due(x.height(), 0);
        });
        edge("14: H of now is that of TICK 0 at first", TIDE, x -> {
            due(x.height(), 0);
            x.set(0, 2, 256);
            due(x.height(), 3 * 65536);
        });
        edge("14: H of now goes with each turn, to the last TICK", TIDE, x -> {
            x.turn(4);
            due(x.height(), 3 * 65536);
            x.turn(8);
            due(x.height(), -3 * 65536);
            // 99999 is 15 behind a TICK of PLACE 0: PLACE 960.
            x.turn(99987);
            due(x.height(), -3 * 448 * 64);
        });
        edge("14: what a call asks of other TICKS leaves now as it is", TIDE, x -> {
            x.turn(4);
            x.heightAt(12);
            x.heightOf(0, 13);
            x.place(0, 14);
            x.waters(15, 100, 0);
            due(x.height(), 3 * 65536);
            due(x.count(1), 4);
        });
    }

    private static void heightAt() {
        edge("15: H at TICK 0 and at TICK 99999", TIDE, x -> {
            x.set(0, 2, 64);
            due(x.heightAt(0), 3 * 64 * 448);
            // Of PLACE 64 * 100000 modulo 1024, as 64 * 16 is 1024.
            due(x.heightAt(99999), 0);
            due(x.heightAt(99998), -3 * 448 * 64);
        });
        edge("15: HEIGHTS of all PARTS, together: of six the greatest", x -> {
            for (int i = 0; i < 6; i++) {
                x.part(0, 0, 999, 256);
            }
            due(x.heightAt(0), 6L * 999 * 65536);
            due(x.heightAt(8), -6L * 999 * 65536);
        });
        edge("15: without PARTS it is 0 at both ends, and NO beyond", x -> {
            due(x.heightAt(0), 0);
            due(x.heightAt(99999), 0);
            due(x.heightAt(100000), NO);
        });
        refuses("15: a TICK below 0 is NO", RICH, NO, x -> x.heightAt(-1), x -> x.heightAt(LEAST));
        refuses("15: a TICK above 99999 is NO", RICH, NO, x -> x.heightAt(100000), x -> x.heightAt(MOST));
    }

    private static void heightOf() {
        edge("16: HEIGHT of a PART at TICK 0 and at TICK 99999, without the others'", TIDE, x -> {
            x.part(0, 0, 999, 256);
            due(x.heightOf(0, 0), 0);
            due(x.heightOf(1, 0), 999L * 65536);
            due(x.heightOf(0, 99999), -3 * 448 * 64);
            due(x.heightOf(1, 99999), 999L * 192 * 320);
        });
        edge("16: of an AMP of 0 it is 0, of 999 the greatest", x -> {
            x.part(0, 0, 0, 256);
            x.part(0, 0, 999, 768);
            due(x.heightOf(0, 0), 0);
            due(x.heightOf(1, 0), -999L * 65536);
        });
        refuses("16: a TICK below 0 or above 99999 is NO", RICH, NO, x -> x.heightOf(0, -1), x -> x.heightOf(0, LEAST),
            x -> x.heightOf(0, 100000), x -> x.heightOf(0, MOST));
        refuses("16: no such PART is NO", RICH, NO, x -> x.heightOf(-1, 0), x -> x.heightOf(3, 0), x -> x.heightOf(6, 0),
            x -> x.heightOf(LEAST, 0), x -> x.heightOf(MOST, 0));
        refuses("16: without PARTS it is NO", NEW, NO, x -> x.heightOf(0, 0));
    }

    /** The shape at a place, of a wheel or a slot that stands there at tick 0. */
    private static void shapeIs(String words, int kind, int figure, int... placesAndShapes) {
        edge(words, x -> {
            x.part(kind, figure, 1, 0);
            for (int i = 0; i < placesAndShapes.length; i += 2) {
                x.set(0, 2, placesAndShapes[i]);
                due("at PHASE " + placesAndShapes[i], x.heightOf(0, 0), placesAndShapes[i + 1]);
            }
        });
    }

    private static void shape() {
        shapeIs("16: SHAPE of a WHEEL at its ends, and at its top", 0, 0, 0, 0, 1, 511, 255, 65535, 256, 65536, 257, 65535);
        shapeIs("16: below 512 it is above 0, from there on the minus", 0, 0, 511, 511, 512, 0, 513, -511);
        shapeIs("16: SHAPE of a WHEEL at its bottom, and at the last PLACE", 0, 0, 767, -65535, 768, -65536, 769, -65535,
            1023, -511);
        shapeIs("16: a SLOT's is (FIGURE and 1) times 6553 at most: FIGURE 0", 2, 0, 13, 6487, 14, 6553, 256, 6553,
            498, 6553, 499, 6487);
        shapeIs("16: and no less than the minus of that", 2, 0, 525, -6487, 526, -6553, 768, -6553, 1010, -6553,
            1011, -6487);
        shapeIs("16: a SLOT's of FIGURE 9 lacks 6 at its top and at its bottom", 2, 9, 254, 65530, 256, 65530, 253, 65527,
            768, -65530, 765, -65527);
        shapeIs("16: a SLOT's is a WHEEL's elsewhere", 2, 4, 0, 0, 1, 511, 511, 511, 512, 0, 513, -511, 1023, -511);
        shapeIs("16: a WHEEL has no such most, whatever its FIGURE", 0, 0, 256, 65536, 768, -65536);
        // A HALF's way is twice a wheel's, so its places are even, and half of a wheel's there needs no cut.
        shapeIs("16: a HALF's is half of a WHEEL's, at twice the PHASE", 4, 0, 0, 0, 1, 510, 128, 32768, 255, 510, 256, 0,
            257, -510, 384, -32768, 511, -510, 512, 0, 513, 510);
        shapeIs("16: a TWIN's is a WHEEL's, at twice the PHASE", 1, 0, 1, 1020, 128, 65536, 255, 1020, 256, 0, 257, -1020,
            384, -65536, 512, 0);
        shapeIs("16: a DRIFT's is a WHEEL's", 3, 0, 1, 511, 256, 65536, 511, 511, 512, 0, 768, -65536);
        shapeIs("16: a LATCH's is a WHEEL's, at a whole 64", 5, 0, 63, 0, 64, 64 * 448, 256, 65536, 511, 448 * 64, 512, 0,
            768, -65536, 1023, -64 * 448);
    }

    private static void place() {
        edge("17: PLACE at TICK 0 and at TICK 99999", TIDE, x -> {
            due(x.place(0, 0), 0);
            due(x.place(0, 99999), 960);
        });
        edge("17: PLACES 0 and 1023 are answered", x -> {
            x.part(0, 0, 1, 1023);
            x.part(0, 0, 1, 0);
            due(x.place(0, 0), 1023);
            due(x.place(1, 0), 0);
        });
        refuses("17: a TICK below 0 or above 99999 is BAD", RICH, BAD, x -> x.place(0, -1), x -> x.place(0, LEAST),
            x -> x.place(0, 100000), x -> x.place(0, MOST));
        refuses("17: no such PART is BAD", RICH, BAD, x -> x.place(-1, 0), x -> x.place(3, 0), x -> x.place(6, 0),
            x -> x.place(LEAST, 0), x -> x.place(MOST, 0));
        refuses("17: without PARTS it is BAD", NEW, BAD, x -> x.place(0, 0));
    }

    /** The places of a part at some ticks. */
    private static void placesAre(String words, Consumer<TideWheels> recipe, int... ticksAndPlaces) {
        edge(words, recipe, x -> {
            for (int i = 0; i < ticksAndPlaces.length; i += 2) {
                due("at TICK " + ticksAndPlaces[i], x.place(0, ticksAndPlaces[i]), ticksAndPlaces[i + 1]);
            }
        });
    }

    /** A part that stands: its train has a jam. */
    private static Consumer<TideWheels> jammed(int kind, int figure, int phase) {
        return x -> {
            x.part(kind, figure, 1, phase);
            x.gear(0, 200, 200);
        };
    }

    private static Consumer<TideWheels> turning(int kind, int shaft, int phase) {
        return x -> {
            x.shaft(shaft);
            x.part(kind, 9, 1, phase);
        };
    }

    private static void way() {
        placesAre("17: WAY is modulo 1024: behind PLACE 1023 comes 0", turning(0, 1, 1023), 0, 1023, 1, 0, 2, 1,
            1024, 1023, 1025, 0);
        placesAre("17: a TWIN's is twice a WHEEL's, around 1023", turning(1, 1, 511), 0, 1022, 1, 0, 2, 2);
        placesAre("17: a TWIN's of the greatest PHASE", turning(1, 1, 1023), 0, 1022, 1, 0);
        placesAre("17: a HALF's is a TWIN's", turning(4, 1, 1023), 0, 1022, 1, 0, 2, 2);
        placesAre("17: a SLOT's is a WHEEL's", turning(2, 1, 1023), 0, 1023, 1, 0, 100, 99);
        placesAre("17: t times SPEED is cut", x -> {
            turning(0, 1, 0).accept(x);
            x.gear(0, 8, 48);
        }, 0, 0, 5, 0, 6, 1, 11, 1, 12, 2, 99999, 16666 % 1024);
        placesAre("17: a TWIN's is twice what was cut", x -> {
            turning(1, 1, 0).accept(x);
            x.gear(0, 8, 48);
        }, 5, 0, 6, 2, 11, 2, 12, 4);
        placesAre("17: of the fastest PART no number wraps around", x -> {
            turning(0, 999, 1023).accept(x);
            x.gear(0, 48, 8);
            x.gear(0, 48, 8);
            x.gear(0, 48, 8);
        }, 1, (int) ((1023 + 215784L) % 1024), 99999, (int) ((1023 + 215784L * 99999) % 1024));
        placesAre("17: nor of the longest fraction", x -> {
            turning(0, 999, 0).accept(x);
            x.gear(0, 199, 101);
            x.gear(0, 199, 101);
            x.gear(0, 199, 101);
        }, 99999, (int) (99999L * 999 * 199 * 199 * 199 / (101L * 101 * 101) % 1024));
        placesAre("17: a PART with a JAM stands", jammed(0, 9, 700), 0, 700, 1, 700, 99999, 700);
        placesAre("17: a DRIFT is FIGURE more for each 100 TICKS, cut", jammed(3, 9, 0), 0, 0, 99, 0, 100, 9, 199, 9,
            200, 18, 99999, 999 * 9 % 1024);
        placesAre("17: a DRIFT of FIGURE 0 doesn't drift", jammed(3, 0, 5), 100, 5, 99999, 5);
        placesAre("17: a WHEEL of any FIGURE doesn't drift", jammed(0, 9, 5), 100, 5, 99999, 5);
        placesAre("17: a drift goes around 1023", jammed(3, 9, 1020), 99, 1020, 100, 5);
        placesAre("17: a LATCH goes on by whole 64s", turning(5, 1, 0), 0, 0, 63, 0, 64, 64, 99, 64);
        placesAre("17: a LATCH's PHASE is cut, too", jammed(5, 0, 63), 0, 0, 99999, 0);
        placesAre("17: a LATCH of PHASE 64, and of the greatest", x -> {
            jammed(5, 0, 64).accept(x);
            x.set(0, 2, 1023);
        }, 0, 960, 99999, 960);
        placesAre("17: a LATCH drifts as a DRIFT does, then is cut", jammed(5, 1, 63), 99, 0, 100, 64);
        placesAre("17: a LATCH goes around 1023", turning(5, 1, 1023), 0, 960, 1, 0, 64, 0, 65, 64);
    }
}
