import java.util.function.Consumer;

/** The boundaries of promises 20 to 22. In RICH, sheet 2 is missing, sheet 1 tells 9, sheet 3 tells 8. */
final class ToldEdges extends Edge {
    /** Six parts; the first five change no height, whatever their phase or kind is. */
    private static final Consumer<TideWheels> LAST_OF_SIX = x -> {
        for (int i = 0; i < 5; i++) {
            x.part(0, 0, 0, 9);
        }
        x.part(0, 0, 3, 0);
    };

    /** Six parts; the first five change no height, whatever their amp is, as they stand where a wheel is at 0. */
    private static final Consumer<TideWheels> LAST_MOVES = x -> {
        for (int i = 0; i < 5; i++) {
            x.part(0, 0, 5, 0);
            x.gear(i, 200, 200);
        }
        x.part(0, 0, 3, 100);
    };

    private ToldEdges() { }

    static void all() {
        told();
        wrongByPhase();
        wrongByAmp();
        wrongByKind();
        wrong();
        tellsRefused();
        refound();
        refoundHighs();
        refoundRefused();
        film();
        filmRefused();
    }

    private static void sheetOf(TideWheels x, int sheet, int sort, long... items) {
        x.sheet(sheet, sort, items.length);
        for (int i = 0; i < items.length; i++) {
            x.put(sheet, i, items[i]);
        }
    }

    private static void told() {
        edge("20: of 8 told the first is otherwise (0)", TIDE, x -> {
            x.film(0, 0, 8);
            x.put(0, 0, 1);
            due(x.tells(0, 0, 0), 0);
        });
        edge("20: of 8 told the last is otherwise (7)", TIDE, x -> {
            x.film(0, 0, 8);
            x.put(0, 7, 1);
            due(x.tells(0, 0, 0), 7);
        });
        edge("20: of two that are otherwise the first", TIDE, x -> {
            x.film(0, 0, 8);
            x.put(0, 3, 1);
            x.put(0, 6, 1);
            due(x.tells(0, 0, 0), 3);
        });
        edge("20: NONE, if none of 8 is otherwise", TIDE, x -> {
            x.film(0, 3, 8);
            due(x.tells(0, 3, 0), NONE);
            due(x.tells(0, 4, 0), 0);
        });
        edge("20: one told", TIDE, x -> {
            sheetOf(x, 1, 1, 3 * 65536);
            due(x.tells(1, 4, 0), NONE);
            due(x.tells(1, 5, 0), 0);
        });
        edge("20: a row that tells none is not otherwise", TIDE, x -> {
            x.sheet(0, 0, 0);
            due(x.tells(0, 0, 0), NONE);
            due(x.tells(0, 99999, 0), NONE);
        });
        edge("20: without PARTS only 0 is so", x -> {
            sheetOf(x, 0, 0, 0, 0, 1);
            due(x.tells(0, 0, 0), 2);
            x.put(0, 2, 0);
            due(x.tells(0, 0, 0), NONE);
        });
        edge("20: from TICK 99999 on those beyond it are told", TIDE, x -> {
            x.film(0, 99999, 8);
            due(x.tells(0, 99999, 0), NONE);
            x.put(0, 7, 1);
            due(x.tells(0, 99999, 0), 7);
            due(x.tells(0, 99998, 0), 0);
        });
        edge("20: a long beyond an int is not taken for one", TIDE, x -> {
            sheetOf(x, 0, 0, 3 * 65536 + (1L << 32));
            due(x.tells(0, 4, 0), 0);
            due(x.tells(0, 4, 1), NONE);
        });
        edge("20: tells changes nothing", RICH, x -> {
            due(x.tells(3, 70, 0), NONE);
            x.tells(3, 71, 1);
            x.tells(3, 71, 2);
            x.tells(3, 71, 3);
            isAs("tells", x, RICH);
        });
    }

    private static void wrongByPhase() {
        edge("20: by PHASE: PHASE 0 is found", TIDE, x -> {
            x.film(0, 0, 8);
            x.set(0, 2, 1023);
            due(x.tells(0, 0, 1), 0);
            due(x.of(0, 3), 1023);
        });
        edge("20: by PHASE: PHASE 1023 is found", TIDE, x -> {
            x.set(0, 2, 1023);
            x.film(0, 0, 8);
            x.set(0, 2, 0);
            due(x.tells(0, 0, 1), 1023);
            due(x.of(0, 3), 0);
        });
        edge("20: by PHASE: of the last PART, 1023: 6143", LAST_OF_SIX, x -> {
            x.set(5, 2, 1023);
            x.film(0, 0, 8);
            x.set(5, 2, 0);
            due(x.tells(0, 0, 1), 6143);
        });
        edge("20: by PHASE: of the last PART, 0: 5120", LAST_OF_SIX, x -> {
            x.film(0, 0, 8);
            x.set(5, 2, 1);
            due(x.tells(0, 0, 1), 5120);
        });
        edge("20: by PHASE: as it is, too", TIDE, x -> {
            x.set(0, 2, 7);
            x.film(0, 0, 8);
            due(x.tells(0, 0, 1), 7);
        });
        edge("20: by PHASE: as it is, the first PART and its least", LAST_OF_SIX, x -> {
            x.film(0, 0, 8);
            due(x.tells(0, 0, 1), 0);
        });
        edge("20: by PHASE: of two that fit, the least", x -> {
            x.part(0, 0, 1, 500);
            x.gear(0, 200, 200);
            // 12 times 500 is 500 times 12.
            sheetOf(x, 0, 0, 6000);
            due(x.tells(0, 0, 1), 12);
        });
    }

    private static void wrongByAmp() {
        edge("20: by AMP: AMP 0 is found", TIDE, x -> {
            sheetOf(x, 0, 0, 0, 0, 0, 0, 0, 0, 0, 0);
            due(x.tells(0, 0, 2), 0);
        });
        edge("20: by AMP: AMP 999 is found", TIDE, x -> {
            x.set(0, 1, 999);
            x.film(0, 0, 8);
            x.set(0, 1, 0);
            due(x.tells(0, 0, 2), 999);
            due(x.of(0, 2), 0);
        });
        edge("20: by AMP: 1000 is none", TIDE, x -> {
            sheetOf(x, 0, 0, 1000 * 65536);
            due(x.tells(0, 4, 2), NONE);
            x.put(0, 0, 999 * 65536);
            due(x.tells(0, 4, 2), 999);
            x.put(0, 0, -65536);
            due(x.tells(0, 4, 2), NONE);
        });
        edge("20: by AMP: of the last PART, 999: 5999", LAST_MOVES, x -> {
            x.set(5, 1, 999);
            x.film(0, 0, 8);
            x.set(5, 1, 0);
            due(x.tells(0, 0, 2), 5999);
        });
        edge("20: by AMP: of the last PART, 0: 5000", LAST_MOVES, x -> {
            sheetOf(x, 0, 0, 0, 0, 0, 0, 0, 0, 0, 0);
            due(x.tells(0, 0, 2), 5000);
        });
        edge("20: by AMP: as it is, too", TIDE, x -> {
            x.film(0, 0, 8);
            due(x.tells(0, 0, 2), 3);
        });
        edge("20: by AMP: where it doesn't matter, the least", LAST_MOVES, x -> {
            x.film(0, 0, 8);
            due(x.tells(0, 0, 2), 0);
        });
    }

    private static void wrongByKind() {
        edge("20: by KIND: KIND 0 is found", TIDE, x -> {
            x.film(0, 0, 8);
            x.kind(0, 5);
            // A LATCH that goes on by 64 is no other than a WHEEL, so it must begin elsewhere.
            x.set(0, 2, 1);
            x.film(0, 0, 8);
            x.kind(0, 0);
            x.film(0, 0, 8);
            x.kind(0, 1);
            due(x.tells(0, 0, 3), 0);
            due(x.of(0, 0), 1);
        });
        edge("20: by KIND: KIND 5 is found", x -> {
            x.shaft(21);
            x.part(5, 0, 3, 100);
            x.film(0, 0, 8);
            x.kind(0, 0);
            due(x.tells(0, 0, 3), 5);
            due(x.of(0, 0), 0);
        });
        edge("20: by KIND: of the last PART, 5: 35", LAST_OF_SIX, x -> {
            x.shaft(21);
            x.kind(5, 5);
            x.film(0, 0, 8);
            x.kind(5, 0);
            due(x.tells(0, 0, 3), 35);
        });
        edge("20: by KIND: as it is, too", x -> {
            x.part(4, 0, 3, 100);
            x.film(0, 0, 8);
            due(x.tells(0, 0, 3), 4);
        });
        edge("20: by KIND: where it doesn't matter, the first PART's least", LAST_OF_SIX, x -> {
            x.film(0, 0, 8);
            due(x.tells(0, 0, 3), 0);
        });
        edge("20: by KIND: of the same FIGURE of 0 a DRIFT is as a WHEEL, the least", x -> {
            x.part(3, 0, 3, 100);
            x.film(0, 0, 8);
            due(x.tells(0, 0, 3), 0);
        });
    }

    private static void wrong() {
        edge("20: WRONG of a row that tells none: the first PART and the least", LAST_OF_SIX, x -> {
            x.sheet(0, 1, 0);
            for (int what = 1; what <= 3; what++) {
                due(x.tells(0, 0, what), 0);
            }
        });
        edge("20: WRONG without PARTS is NONE, whatever is told", x -> {
            x.sheet(0, 0, 0);
            sheetOf(x, 1, 0, 0, 0);
            for (int what = 1; what <= 3; what++) {
                due(x.tells(0, 0, what), NONE);
                due(x.tells(1, 0, what), NONE);
            }
        });
        edge("20: WRONG is NONE, if nothing alone makes all so", LAST_OF_SIX, x -> {
            sheetOf(x, 0, 0, 1, 2, 3, 4, 5, 6, 7, 8);
            for (int what = 1; what <= 3; what++) {
                due(x.tells(0, 0, what), NONE);
            }
        });
        edge("20: WRONG is NONE, if only the last of 8 can't be so", TIDE, x -> {
            x.film(0, 0, 8);
            x.put(0, 7, 1);
            for (int what = 1; what <= 3; what++) {
                due(x.tells(0, 0, what), NONE);
            }
        });
        edge("20: of two PARTS that both could be it, the first", TIDE, x -> {
            x.part(0, 0, 3, 0);
            x.film(0, 0, 8);
            x.set(1, 2, 40);
            x.set(0, 2, 40);
            x.film(1, 0, 8);
            x.set(0, 2, 0);
            due(x.tells(1, 0, 1), 40);
            due(x.tells(0, 0, 1), 1024);
        });
        edge("20: WRONG from TICK 99999 on, with other PARTS' heights beyond it", TIDE, x -> {
            x.part(0, 0, 500, 100);
            x.film(0, 99999, 8);
            x.set(0, 2, 1023);
            due(x.tells(0, 99999, 1), 0);
            x.set(0, 2, 0);
            x.set(0, 1, 999);
            due(x.tells(0, 99999, 2), 3);
            x.set(0, 1, 3);
            x.set(1, 2, 0);
            due(x.tells(0, 99999, 1), 1024 + 100);
        });
        edge("20: WRONG from TICK 99999 on", TIDE, x -> {
            x.film(0, 99999, 8);
            due(x.tells(0, 99999, 1), 0);
            due(x.tells(0, 99999, 2), 3);
            x.set(0, 2, 900);
            due(x.tells(0, 99999, 1), 0);
            due(x.tells(0, 99999, 2), NONE);
        });
    }

    private static void tellsRefused() {
        refuses("20: SHEET below 0 or above 3 is BAD", RICH, BAD, x -> x.tells(-1, 0, 0), x -> x.tells(4, 0, 0),
            x -> x.tells(LEAST, 0, 0), x -> x.tells(MOST, 0, 0));
        refuses("20: f below 0 or above 99999 is BAD", RICH, BAD, x -> x.tells(0, -1, 0), x -> x.tells(0, 100000, 0),
            x -> x.tells(0, LEAST, 0), x -> x.tells(0, MOST, 0));
        refuses("20: what below 0 or above 3 is BAD", RICH, BAD, x -> x.tells(0, 0, -1), x -> x.tells(0, 0, 4),
            x -> x.tells(0, 0, LEAST), x -> x.tells(0, 0, MOST));
        refuses("20: a missing SHEET is -11", RICH, MISSING, x -> x.tells(2, 0, 0), x -> x.tells(2, 99999, 1),
            x -> x.tells(2, 0, 2), x -> x.tells(2, 0, 3));
        refuses("20: BAD is ahead of -11", RICH, BAD, x -> x.tells(2, -1, 0), x -> x.tells(2, 100000, 0),
            x -> x.tells(2, 0, 4), x -> x.tells(2, 0, -1));
        refuses("20: a SHEET that tells 9 is BAD", RICH, BAD, x -> x.tells(1, 0, 0), x -> x.tells(1, 0, 1),
            x -> x.tells(1, 0, 2), x -> x.tells(1, 0, 3));
        refuses("20: a SHEET that tells 40 is BAD", x -> {
            RICH.accept(x);
            x.film(2, 0, 40);
        }, BAD, x -> x.tells(2, 0, 0), x -> x.tells(2, 0, 1));
    }

    private static void refoundIs(TideWheels x, int f, int n, int phases, int least) {
        due("how many by n " + n, x.refound(0, 0, f, n, 0), phases);
        due("the least by n " + n, x.refound(0, 0, f, n, 1), least);
    }

    private static void refound() {
        // The highest place is within 32 places of the top at TICK 4, if the phase is one of -31 .. 32.
        edge("21: how many PHASES fit, and the least", TIDE, x -> {
            sheetOf(x, 0, 0, 4, 20, 36);
            refoundIs(x, 0, 200, 64, 0);
            x.put(0, 0, 5);
            x.put(0, 1, 21);
            x.put(0, 2, 37);
            refoundIs(x, 0, 200, 64, 1024 - 95);
        });
        edge("21: a row that tells none fits all", TIDE, x -> {
            x.sheet(0, 0, 0);
            refoundIs(x, 0, 200, 1024, 0);
            refoundIs(x, 0, 1, 1024, 0);
            refoundIs(x, 99999, 1, 1024, 0);
        });
        edge("21: if there are fewer HIGHS, it doesn't fit", TIDE, x -> {
            sheetOf(x, 0, 0, 4, 20, 36, 52);
            refoundIs(x, 0, 52, 0, NONE);
            refoundIs(x, 0, 53, 64, 0);
        });
        edge("21: more HIGHS than are told don't matter", TIDE, x -> {
            sheetOf(x, 0, 0, 4);
            refoundIs(x, 0, 5, 64, 0);
            refoundIs(x, 0, 200, 64, 0);
        });
        edge("21: 8 told, the most", TIDE, x -> {
            sheetOf(x, 0, 1, 4, 20, 36, 52, 68, 84, 100, 116);
            refoundIs(x, 0, 116, 0, NONE);
            refoundIs(x, 0, 117, 64, 0);
            x.put(0, 7, 117);
            refoundIs(x, 0, 200, 0, NONE);
        });
        edge("21: of n 1 there are no HIGHS", TIDE, x -> {
            sheetOf(x, 0, 0, 4);
            refoundIs(x, 3, 1, 0, NONE);
            refoundIs(x, 4, 1, 0, NONE);
            refoundIs(x, 2, 3, 64, 0);
        });
        edge("21: n 200, the most: its last TICK is looked at", TIDE, x -> {
            x.shaft(1);
            x.gear(0, 10, 10);
            // A slow wheel is at its top at TICK 199 by PHASE 57 alone.
            sheetOf(x, 0, 0, 199);
            refoundIs(x, 0, 200, 1, 57);
            refoundIs(x, 0, 199, 0, NONE);
        });
        edge("21: from TICK 99999 on, HIGHS beyond it are found", TIDE, x -> {
            sheetOf(x, 0, 0, 100004, 100020);
            refoundIs(x, 99999, 200, 64, 0);
            refoundIs(x, 99999, 22, 64, 0);
            refoundIs(x, 99999, 21, 0, NONE);
        });
        edge("21: from TICK 99999 on, with other PARTS' heights beyond it", TIDE, x -> {
            // It is highest at 100004 and 16 behind that, whatever the one in thought adds to it.
            x.part(0, 0, 999, 0);
            x.set(0, 1, 1);
            sheetOf(x, 0, 0, 100004, 100020);
            refoundIs(x, 99999, 200, 1024, 0);
        });
    }

    private static void refoundHighs() {
        edge("21: f itself is no HIGH", TIDE, x -> {
            sheetOf(x, 0, 0, 4);
            refoundIs(x, 4, 200, 0, NONE);
        });
        edge("21: a rise ahead of f doesn't count", TIDE, x -> {
            sheetOf(x, 0, 0, 4);
            // By PHASE 32 it is level from 3 to 4, and what rose to 3 isn't looked at.
            refoundIs(x, 3, 200, 63, 0);
            refoundIs(x, 2, 200, 64, 0);
        });
        edge("21: TICK f + n isn't looked at", TIDE, x -> {
            sheetOf(x, 0, 0, 20);
            refoundIs(x, 5, 15, 0, NONE);
            refoundIs(x, 5, 16, 64, 0);
        });
        edge("21: a HIGH ahead of the first told one doesn't fit", TIDE, x -> {
            sheetOf(x, 0, 0, 20);
            refoundIs(x, 0, 200, 0, NONE);
        });
        edge("21: a HIGH between the told ones doesn't fit", TIDE, x -> {
            sheetOf(x, 0, 0, 4, 36);
            refoundIs(x, 0, 200, 0, NONE);
        });
        edge("21: TICKS told in another order don't fit", TIDE, x -> {
            sheetOf(x, 0, 0, 20, 4);
            refoundIs(x, 0, 200, 0, NONE);
        });
        edge("21: TICKS beyond an int are none", TIDE, x -> {
            sheetOf(x, 0, 0, 4 + (1L << 32));
            refoundIs(x, 0, 200, 0, NONE);
            x.put(0, 0, Long.MIN_VALUE);
            refoundIs(x, 0, 200, 0, NONE);
        });
        edge("21: TICKS below 0 are none", TIDE, x -> {
            sheetOf(x, 0, 1, -1);
            refoundIs(x, 0, 200, 0, NONE);
        });
        edge("21: PHASE 1023 is looked at", TIDE, x -> {
            x.shaft(1);
            // Of the slow wheel only 1023 comes to its top, 256, in 257 TICKS from 1023 on: 199 of them from f 58 on.
            sheetOf(x, 0, 0, 257);
            refoundIs(x, 58, 200, 1, 1023);
        });
        edge("21: the other PARTS' heights count, that of TICK f + n, too", TIDE, x -> {
            // It stands high above the one in thought.
            x.part(0, 0, 999, 256);
            x.gear(1, 200, 200);
            sheetOf(x, 0, 0, 4);
            refoundIs(x, 0, 5, 64, 0);
            refoundIs(x, 0, 4, 0, NONE);
            x.put(0, 0, 3);
            refoundIs(x, 0, 4, 64, 32 + 1);
        });
        edge("21: the other PARTS' heights count, that of f itself, too", x -> {
            x.part(0, 0, 1, 0);
            // It is highest at TICK 1, whatever the one in thought adds to it.
            x.part(0, 0, 999, 192);
            sheetOf(x, 0, 0, 1);
            refoundIs(x, 0, 2, 1024, 0);
            refoundIs(x, 0, 200, 1024, 0);
            refoundIs(x, 1, 2, 0, NONE);
            x.set(1, 1, 1);
            x.sheet(0, 0, 0);
            refoundIs(x, 1, 200, 1024, 0);
        });
        edge("21: of an AMP of 0 no PHASE has HIGHS", TIDE, x -> {
            x.set(0, 1, 0);
            sheetOf(x, 0, 0, 4);
            refoundIs(x, 0, 200, 0, NONE);
        });
        edge("21: refound changes nothing", RICH, x -> {
            x.refound(3, 0, 0, 200, 0);
            x.refound(0, 2, 5, 100, 1);
            isAs("refound", x, RICH);
        });
    }

    private static void refoundRefused() {
        refuses("21: SHEET below 0 or above 3 is BAD", RICH, BAD, x -> x.refound(-1, 0, 0, 9, 0),
            x -> x.refound(4, 0, 0, 9, 0), x -> x.refound(LEAST, 0, 0, 9, 0), x -> x.refound(MOST, 0, 0, 9, 0));
        refuses("21: no such PART is BAD", RICH, BAD, x -> x.refound(0, -1, 0, 9, 0), x -> x.refound(0, 3, 0, 9, 0),
            x -> x.refound(0, 6, 0, 9, 0), x -> x.refound(0, LEAST, 0, 9, 0), x -> x.refound(0, MOST, 0, 9, 0));
        refuses("21: f below 0 or above 99999 is BAD", RICH, BAD, x -> x.refound(0, 0, -1, 9, 0),
            x -> x.refound(0, 0, 100000, 9, 0), x -> x.refound(0, 0, LEAST, 9, 0), x -> x.refound(0, 0, MOST, 9, 0));
        refuses("21: n below 1 or above 200 is BAD", RICH, BAD, x -> x.refound(0, 0, 0, 0, 0),
            x -> x.refound(0, 0, 0, -1, 0), x -> x.refound(0, 0, 0, 201, 0), x -> x.refound(0, 0, 0, LEAST, 0),
            x -> x.refound(0, 0, 0, MOST, 0));
        refuses("21: what below 0 or above 1 is BAD", RICH, BAD, x -> x.refound(0, 0, 0, 9, -1),
            x -> x.refound(0, 0, 0, 9, 2), x -> x.refound(0, 0, 0, 9, LEAST), x -> x.refound(0, 0, 0, 9, MOST));
        refuses("21: a missing SHEET is -11", RICH, MISSING, x -> x.refound(2, 0, 0, 9, 0), x -> x.refound(2, 2, 0, 9, 1));
        refuses("21: BAD is ahead of -11", RICH, BAD, x -> x.refound(2, 3, 0, 9, 0), x -> x.refound(2, 0, -1, 9, 0),
            x -> x.refound(2, 0, 0, 0, 0), x -> x.refound(2, 0, 0, 201, 0), x -> x.refound(2, 0, 0, 9, 2));
        refuses("21: a SHEET that tells 9 is BAD", RICH, BAD, x -> x.refound(1, 0, 0, 9, 0), x -> x.refound(1, 0, 0, 9, 1));
        refuses("21: without PARTS it is BAD, ahead of -11", NEW, BAD, x -> x.refound(0, 0, 0, 9, 0));
    }

    private static void film() {
        edge("22: n 0 makes an empty row of longs", RICH, x -> {
            due(x.film(1, 0, 0), 0);
            due(x.item(1, 0), NO);
            due(x.load(1, 0, 0, 0), 0);
            due(x.put(1, 0, 1), OUTSIDE);
        });
        edge("22: n 40, the most", TIDE, x -> {
            due(x.film(3, 0, 40), 40);
            due(x.item(3, 0), 0);
            due(x.item(3, 4), 3 * 65536);
            due(x.item(3, 39), 3 * 448 * 64);
            due(x.item(3, 40), NO);
        });
        edge("22: a missing SHEET becomes a row", TIDE, x -> {
            due(x.film(0, 4, 1), 1);
            due(x.item(0, 0), 3 * 65536);
            due(x.item(0, 1), NO);
        });
        edge("22: a row of ints becomes one of longs", TIDE, x -> {
            x.sheet(0, 1, 5);
            due(x.film(0, 4, 2), 2);
            due(x.put(0, 1, 1L << 40), 1);
            due(x.item(0, 1), 1L << 40);
            due(x.load(0, 1, 0, 0), OTHER);
        });
        edge("22: of a longer row nothing is left", TIDE, x -> {
            sheetOf(x, 0, 0, 1, 2, 3, 4, 5);
            due(x.film(0, 4, 2), 2);
            due(x.item(0, 2), NO);
            due(x.put(0, 2, 1), OUTSIDE);
        });
        edge("22: f 99999 with n 40: TICKS beyond it, too", TIDE, x -> {
            due(x.film(0, 99999, 40), 40);
            due(x.item(0, 0), -3 * 448 * 64);
            due(x.item(0, 5), 3 * 65536);
            due(x.item(0, 39), 3 * 384 * 128);
        });
        edge("22: without PARTS it is a row of 0", RICH, x -> {
            x.drop();
            x.drop();
            x.drop();
            due(x.film(0, 0, 3), 3);
            due(x.item(0, 0), 0);
            due(x.item(0, 2), 0);
            due(x.item(0, 3), NO);
        });
        edge("22: what is filmed stays, though the PARTS become others", TIDE, x -> {
            x.film(0, 4, 1);
            x.set(0, 1, 0);
            due(x.item(0, 0), 3 * 65536);
        });
    }

    private static void filmRefused() {
        refuses("22: n below 0 or above 40 is BAD", RICH, BAD, x -> x.film(0, 0, -1), x -> x.film(0, 0, 41),
            x -> x.film(1, 0, LEAST), x -> x.film(2, 0, MOST));
        refuses("22: f below 0 or above 99999 is BAD", RICH, BAD, x -> x.film(0, -1, 5), x -> x.film(1, 100000, 5),
            x -> x.film(2, LEAST, 5), x -> x.film(3, MOST, 5), x -> x.film(0, 100000, 0));
        refuses("22: SHEET below 0 or above 3 is BAD", RICH, BAD, x -> x.film(-1, 0, 5), x -> x.film(4, 0, 5),
            x -> x.film(LEAST, 0, 5), x -> x.film(MOST, 0, 5));
    }
}
