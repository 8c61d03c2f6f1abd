/** The boundaries of promises 26 and 27. */
final class LotEdges extends Edge {
    private LotEdges() { }

    static void all() {
        drawn();
        chance();
        chanceRefused();
    }

    /** Of a wheel's shape at a place. */
    private static long shape(int i) {
        return i < 512 ? (long) i * (512 - i) : -(long) (i - 512) * (1024 - i);
    }

    /** The phase of the only part, by a seed: a wheel that stands tells it, but for its mirror image. */
    private static void drawnIs(String words, int seed, int... phases) {
        edge(words, x -> {
            long height = 0;
            for (int phase : phases) {
                x.part(0, 0, 1, 0);
                height += shape(phase);
                due("with one part more", x.drawn(seed, 0), height);
            }
        });
    }

    private static void drawn() {
        edge("26: without PARTS it is 0", x -> {
            due(x.drawn(0, 0), 0);
            due(x.drawn(LEAST, 99999), 0);
        });
        // 12345 >>> 9 is 24; each z behind it goes beyond an int.
        drawnIs("26: SEED 0, for one PART to six", 0, 24, 523, 531, 654, 331, 910);
        drawnIs("26: SEED 1", 1, 831, 856, 242, 461, 495, 442);
        drawnIs("26: SEED -1: z below 0 is shifted as if it weren't", -1, 240, 190, 821, 846, 167, 354);
        drawnIs("26: the greatest SEED", MOST, 240, 190, 821, 846, 167, 354);
        drawnIs("26: the least SEED", LEAST, 24, 523, 531, 654, 331, 910);
        edge("26: TICK 0 and TICK 99999", TIDE, x -> {
            due(x.drawn(0, 0), 3 * shape(24));
            due(x.drawn(0, 99999), 3 * shape((24 + 960) % 1024));
        });
        edge("26: the PHASE is in thought", RICH, x -> {
            x.drawn(5, 77);
            isAs("drawn", x, RICH);
        });
        edge("26: a PART's own PHASE doesn't matter", TIDE, x -> {
            x.set(0, 2, 1023);
            due(x.drawn(0, 0), 3 * shape(24));
        });
        refuses("26: a TICK below 0 or above 99999 is NO", RICH, NO, x -> x.drawn(0, -1), x -> x.drawn(0, 100000),
            x -> x.drawn(0, LEAST), x -> x.drawn(0, MOST));
        refuses("26: without PARTS, too", NEW, NO, x -> x.drawn(0, -1), x -> x.drawn(0, 100000));
    }

    private static void chanceIs(TideWheels x, int seed, int m, int w, int above, int below) {
        due("above the line, of " + m + " by " + w, x.chance(seed, m, 0, w, 0), above);
        due("below the line, of " + m + " by " + w, x.chance(seed, m, 0, w, 1), below);
    }

    private static void chance() {
        edge("27: of m 1, all or none: w itself counts, 1 more doesn't", x -> {
            x.part(0, 0, 1, 0);
            chanceIs(x, 0, 1, 11712, 1, 1);
            chanceIs(x, 0, 1, 11713, 0, 1);
        });
        edge("27: of m 20, the most, in lowest terms", x -> {
            x.part(0, 0, 1, 0);
            chanceIs(x, 0, 20, 0, 11, 20);
            chanceIs(x, 0, 20, 511, 11, 20);
            chanceIs(x, 0, 20, 512, 1, 2);
            chanceIs(x, 0, 20, 65095, 1, 20);
            chanceIs(x, 0, 20, 65096, 0, 1);
            chanceIs(x, 0, 20, -65527, 1, 1);
            chanceIs(x, 0, 20, -65526, 19, 20);
        });
        edge("27: the last seed is SEED and m - 1", x -> {
            x.part(0, 0, 1, 0);
            // Of the seeds from 9 to 13 only 13 is above 60000.
            chanceIs(x, 9, 5, 60000, 1, 5);
            chanceIs(x, 9, 4, 60000, 0, 1);
            chanceIs(x, 14, 4, 60000, 0, 1);
        });
        edge("27: the seeds go around, from the greatest int to the least", x -> {
            x.part(0, 0, 1, 0);
            // 65280 by the greatest, 11712 by the least, -61567 by the one behind it.
            chanceIs(x, MOST, 2, 11712, 1, 1);
            chanceIs(x, MOST, 2, 11713, 1, 2);
            chanceIs(x, MOST, 3, 11712, 2, 3);
            chanceIs(x, MOST, 3, -61567, 1, 1);
            chanceIs(x, LEAST, 2, 0, 1, 2);
        });
        edge("27: the least w: all", TIDE, x -> chanceIs(x, 3, 20, LEAST, 1, 1));
        edge("27: the greatest w: none", TIDE, x -> chanceIs(x, 3, 20, MOST, 0, 1));
        edge("27: without PARTS H is 0", x -> {
            chanceIs(x, 3, 20, 0, 1, 1);
            chanceIs(x, 3, 20, 1, 0, 1);
            chanceIs(x, 3, 20, -1, 1, 1);
        });
        edge("27: TICK 99999", TIDE, x -> {
            int height = (int) (3 * shape((24 + 960) % 1024));
            due(x.chance(0, 1, 99999, height, 0), 1);
            due(x.chance(0, 1, 99999, height + 1, 0), 0);
        });
        edge("27: the PHASES are in thought", RICH, x -> {
            x.chance(5, 20, 77, 0, 0);
            isAs("chance", x, RICH);
        });
    }

    private static void chanceRefused() {
        refuses("27: m below 1 or above 20 is BAD", RICH, BAD, x -> x.chance(0, 0, 0, 0, 0), x -> x.chance(0, -1, 0, 0, 0),
            x -> x.chance(0, 21, 0, 0, 0), x -> x.chance(0, LEAST, 0, 0, 0), x -> x.chance(0, MOST, 0, 0, 0));
        refuses("27: a TICK below 0 or above 99999 is BAD", RICH, BAD, x -> x.chance(0, 1, -1, 0, 0),
            x -> x.chance(0, 1, 100000, 0, 0), x -> x.chance(0, 1, LEAST, 0, 0), x -> x.chance(0, 1, MOST, 0, 0));
        refuses("27: part below 0 or above 1 is BAD", RICH, BAD, x -> x.chance(0, 1, 0, 0, -1),
            x -> x.chance(0, 1, 0, 0, 2), x -> x.chance(0, 1, 0, 0, LEAST), x -> x.chance(0, 1, 0, 0, MOST));
        refuses("27: without PARTS, too", NEW, BAD, x -> x.chance(0, 0, 0, 0, 0), x -> x.chance(0, 1, -1, 0, 0),
            x -> x.chance(0, 1, 0, 0, 2));
    }
}
