import java.util.function.Consumer;

/** The boundaries of promises 18 and 19. */
final class WatersEdges extends Edge {
    /** Above and below its mean as TIDE is, but a sixth of a place a tick: a PLACE lasts 6 ticks. */
    private static final Consumer<TideWheels> LEVELS = x -> {
        x.shaft(1);
        x.part(0, 0, 1, 250);
        x.gear(0, 8, 48);
    };

    private WatersEdges() { }

    static void all() {
        counted();
        stretches();
        utmost();
        watersRefused();
        water();
        waterRefused();
    }

    private static void watersAre(TideWheels x, int f, int n, int highs, int lows, int greatest, int least) {
        int[] due = {highs, lows, greatest, least};
        for (int what = 0; what <= 3; what++) {
            due("waters(" + f + ", " + n + ", " + what + ")", x.waters(f, n, what), due[what]);
        }
    }

    private static void counted() {
        edge("18: without PARTS there are none", x -> watersAre(x, 0, 2000, 0, 0, NONE, NONE));
        edge("18: of n 1, no TICK is looked at", TIDE, x -> {
            for (int f = 0; f < 20; f++) {
                watersAre(x, f, 1, 0, 0, NONE, NONE);
            }
        });
        edge("18: of n 2, f + 1 alone", TIDE, x -> {
            watersAre(x, 3, 2, 1, 0, 4, NONE);
            watersAre(x, 11, 2, 0, 1, NONE, 12);
            watersAre(x, 2, 2, 0, 0, NONE, NONE);
            watersAre(x, 4, 2, 0, 0, NONE, NONE);
        });
        edge("18: f itself is no HIGH, no LOW", TIDE, x -> {
            watersAre(x, 4, 8, 0, 0, NONE, NONE);
            watersAre(x, 12, 8, 0, 0, NONE, NONE);
        });
        edge("18: TICK f + n - 1 is looked at, f + n isn't", TIDE, x -> {
            watersAre(x, 0, 5, 1, 0, 4, NONE);
            watersAre(x, 0, 4, 0, 0, NONE, NONE);
            watersAre(x, 0, 13, 1, 1, 4, 12);
            watersAre(x, 0, 12, 1, 0, 4, NONE);
        });
        edge("18: f 0 with n 2000, the most", TIDE, x -> watersAre(x, 0, 2000, 125, 125, 4, 12));
        edge("18: the 2000th TICK", TIDE, x -> {
            watersAre(x, 5, 2000, 125, 125, 20, 12);
            watersAre(x, 4, 2000, 124, 125, 20, 12);
        });
        // 99999 is 15 modulo 16.
        edge("18: f 99999: TICKS beyond the last one are looked at", TIDE, x -> {
            watersAre(x, 99999, 2000, 125, 125, 100004, 100012);
            watersAre(x, 99999, 6, 1, 0, 100004, NONE);
            watersAre(x, 99999, 5, 0, 0, NONE, NONE);
        });
    }

    private static void stretches() {
        // From 36 on it is at its top, 256, and stays there until 41; it began at 250, a place higher each 6 ticks.
        edge("18: of a level stretch it's the last TICK", LEVELS, x -> {
            watersAre(x, 0, 43, 1, 0, 41, NONE);
            watersAre(x, 0, 42, 1, 0, 41, NONE);
            watersAre(x, 0, 41, 0, 0, NONE, NONE);
        });
        edge("18: UP, level, UP again is no HIGH, no LOW", LEVELS, x -> watersAre(x, 0, 36, 0, 0, NONE, NONE));
        edge("18: DOWN, level, DOWN again is no HIGH, no LOW", LEVELS, x -> watersAre(x, 42, 100, 0, 0, NONE, NONE));
        edge("18: a rise ahead of f doesn't count, on the stretch either", LEVELS, x -> {
            watersAre(x, 36, 100, 0, 0, NONE, NONE);
            watersAre(x, 41, 100, 0, 0, NONE, NONE);
            watersAre(x, 35, 100, 1, 0, 41, NONE);
        });
        edge("18: so it is with a LOW", x -> {
            LEVELS.accept(x);
            x.set(0, 2, 762);
            watersAre(x, 0, 42, 0, 1, NONE, 41);
            watersAre(x, 0, 41, 0, 0, NONE, NONE);
            watersAre(x, 36, 100, 0, 0, NONE, NONE);
            watersAre(x, 35, 100, 0, 1, NONE, 41);
        });
        edge("18: level all along, there are none", x -> {
            x.part(0, 0, 999, 256);
            x.gear(0, 200, 200);
            watersAre(x, 0, 2000, 0, 0, NONE, NONE);
        });
        edge("18: of an AMP of 0 there are none", TIDE, x -> {
            x.set(0, 1, 0);
            watersAre(x, 0, 2000, 0, 0, NONE, NONE);
        });
    }

    /** A second wheel of half the speed. */
    private static Consumer<TideWheels> with(int phase) {
        return x -> {
            TIDE.accept(x);
            x.part(0, 0, 1, phase);
            x.gear(1, 8, 16);
        };
    }

    private static void utmost() {
        edge("18: of like HIGHS the first, of like LOWS the first", TIDE, x -> {
            watersAre(x, 0, 100, 6, 6, 4, 12);
            watersAre(x, 5, 100, 6, 6, 20, 12);
            watersAre(x, 13, 100, 6, 6, 20, 28);
        });
        edge("18: the greatest HIGH is the first, the least LOW a later one", with(0),
            x -> watersAre(x, 0, 33, 2, 2, 4, 28));
        edge("18: the greatest HIGH is a later one, the least LOW the first", with(512),
            x -> watersAre(x, 0, 33, 2, 2, 20, 12));
        edge("18: HIGHS that are all below 0 have a greatest, too", x -> {
            with(512).accept(x);
            x.part(0, 0, 999, 768);
            x.gear(2, 200, 200);
            due(x.heightAt(20) < 0 ? 1 : 0, 1);
            watersAre(x, 0, 33, 2, 2, 20, 12);
        });
        edge("18: LOWS that are all above 0 have a least, too", x -> {
            with(0).accept(x);
            x.part(0, 0, 999, 256);
            x.gear(2, 200, 200);
            due(x.heightAt(28) > 0 ? 1 : 0, 1);
            watersAre(x, 0, 33, 2, 2, 4, 28);
        });
        edge("18: NONE: there are no HIGHS, though a LOW is there", TIDE, x -> watersAre(x, 5, 10, 0, 1, NONE, 12));
        edge("18: NONE: there are no LOWS, though a HIGH is there", TIDE, x -> watersAre(x, 0, 6, 1, 0, 4, NONE));
    }

    private static void watersRefused() {
        refuses("18: f below 0 or above 99999 is BAD", RICH, BAD, x -> x.waters(-1, 9, 0), x -> x.waters(100000, 9, 0),
            x -> x.waters(LEAST, 9, 0), x -> x.waters(MOST, 9, 0));
        refuses("18: n below 1 or above 2000 is BAD", RICH, BAD, x -> x.waters(0, 0, 0), x -> x.waters(0, -1, 0),
            x -> x.waters(0, 2001, 0), x -> x.waters(0, LEAST, 0), x -> x.waters(0, MOST, 0));
        refuses("18: what below 0 or above 3 is BAD", RICH, BAD, x -> x.waters(0, 9, -1), x -> x.waters(0, 9, 4),
            x -> x.waters(0, 9, LEAST), x -> x.waters(0, 9, MOST));
        refuses("18: without PARTS, too", NEW, BAD, x -> x.waters(-1, 9, 0), x -> x.waters(0, 2001, 0),
            x -> x.waters(0, 9, 4));
    }

    private static void water() {
        edge("19: without PARTS there is none", x -> {
            due(x.water(0, 2000, 0, 0), NONE);
            due(x.water(0, 2000, 1, 0), NONE);
        });
        edge("19: the HIGHS from 0, and NONE behind the last of them", TIDE, x -> {
            due(x.water(0, 38, 0, 0), 4);
            due(x.water(0, 38, 0, 1), 20);
            due(x.water(0, 38, 0, 2), 36);
            due(x.water(0, 38, 0, 3), NONE);
            due(x.water(0, 38, 0, MOST), NONE);
        });
        edge("19: the LOWS from 0, and NONE behind the last of them", TIDE, x -> {
            due(x.water(0, 38, 1, 0), 12);
            due(x.water(0, 38, 1, 1), 28);
            due(x.water(0, 38, 1, 2), NONE);
            due(x.water(0, 38, 1, MOST), NONE);
        });
        edge("19: of n 1, no TICK is looked at", TIDE, x -> {
            due(x.water(3, 1, 0, 0), NONE);
            due(x.water(4, 1, 0, 0), NONE);
            due(x.water(11, 1, 1, 0), NONE);
        });
        edge("19: f itself is none", TIDE, x -> {
            due(x.water(4, 20, 0, 0), 20);
            due(x.water(3, 20, 0, 0), 4);
            due(x.water(12, 20, 1, 0), 28);
            due(x.water(11, 20, 1, 0), 12);
        });
        edge("19: TICK f + n - 1 is looked at, f + n isn't", TIDE, x -> {
            due(x.water(0, 5, 0, 0), 4);
            due(x.water(0, 4, 0, 0), NONE);
            due(x.water(0, 13, 1, 0), 12);
            due(x.water(0, 12, 1, 0), NONE);
        });
        edge("19: n 2000, the most", TIDE, x -> {
            due(x.water(0, 2000, 0, 124), 1988);
            due(x.water(0, 2000, 0, 125), NONE);
            due(x.water(0, 2000, 1, 124), 1996);
            due(x.water(0, 2000, 1, 125), NONE);
        });
        edge("19: f 99999: TICKS beyond the last one are looked at", TIDE, x -> {
            due(x.water(99999, 2000, 0, 0), 100004);
            due(x.water(99999, 2000, 0, 124), 101988);
            due(x.water(99999, 2000, 0, 125), NONE);
            due(x.water(99999, 2000, 1, 124), 101996);
            due(x.water(99999, 2000, 1, 125), NONE);
            due(x.water(99999, 1998, 1, 124), 101996);
            due(x.water(99999, 1997, 1, 124), NONE);
        });
        edge("19: of a level stretch it's the last TICK", LEVELS, x -> {
            due(x.water(0, 42, 0, 0), 41);
            due(x.water(0, 41, 0, 0), NONE);
            due(x.water(36, 42, 0, 0), NONE);
        });
    }

    private static void waterRefused() {
        refuses("19: f below 0 or above 99999 is BAD", RICH, BAD, x -> x.water(-1, 9, 0, 0), x -> x.water(100000, 9, 0, 0),
            x -> x.water(LEAST, 9, 0, 0), x -> x.water(MOST, 9, 0, 0));
        refuses("19: n below 1 or above 2000 is BAD", RICH, BAD, x -> x.water(0, 0, 0, 0), x -> x.water(0, -1, 0, 0),
            x -> x.water(0, 2001, 0, 0), x -> x.water(0, LEAST, 0, 0), x -> x.water(0, MOST, 0, 0));
        refuses("19: side below 0 or above 1 is BAD", RICH, BAD, x -> x.water(0, 9, -1, 0), x -> x.water(0, 9, 2, 0),
            x -> x.water(0, 9, LEAST, 0), x -> x.water(0, 9, MOST, 0));
        refuses("19: k below 0 is BAD", RICH, BAD, x -> x.water(0, 9, 0, -1), x -> x.water(0, 9, 1, LEAST));
        refuses("19: without PARTS, too", NEW, BAD, x -> x.water(-1, 9, 0, 0), x -> x.water(0, 9, 0, -1));
    }
}
