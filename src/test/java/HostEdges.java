import java.util.function.Consumer;

/** The boundaries of promises 30 to 37. */
final class HostEdges extends Edge {
    private HostEdges() { }

    static void all() {
        image();
        back();
        load();
        loadOutside();
        loadRefused();
        count();
        sheet();
        sheetRefused();
        put();
        item();
        copy();
        copyRefused();
    }

    private static void image() {
        edge("30: of no PARTS: 0", x -> due(x.image(), 0));
        edge("30: of six PARTS: 6", CROWDED, x -> due(x.image(), 6));
        edge("30: image changes nothing but THE IMAGE", RICH, x -> {
            x.image();
            TideWheels other = new TideWheels();
            RICH.accept(other);
            other.image();
            isAs("image", x, other);
            // RICH's own image was of one part.
            due(x.count(0), 3);
        });
        edge("30: a later IMAGE is kept in place of the earlier one", TIDE, x -> {
            x.image();
            x.part(0, 0, 7, 7);
            x.shaft(9);
            due(x.image(), 2);
            x.drop();
            x.drop();
            due(x.back(), 2);
            due(x.of(1, 2), 7);
            due(x.count(5), 9);
        });
        edge("30: an IMAGE of no PARTS is one, too", x -> {
            x.image();
            x.part(0, 0, 0, 0);
            due(x.back(), 0);
            due(x.count(0), 0);
        });
        edge("30: what comes behind it isn't in it", CROWDED, x -> {
            x.image();
            x.set(5, 1, 999);
            x.kind(5, 0);
            x.gear(5, 8, 8);
            x.ungear(0);
            x.turn(5);
            x.shaft(1);
            due(x.back(), 6);
            due(x.of(5, 0), 5);
            due(x.of(5, 2), 7);
            due(x.of(5, 4), 0);
            due(x.of(0, 4), 1);
            due(x.count(1), 77);
            due(x.count(5), 21);
        });
    }

    private static void back() {
        refuses("31: there is none in a new object: STATE", NEW, STATE, x -> x.back());
        refuses("31: nor in one that was used", GEARED_WITHOUT_IMAGE, STATE, x -> x.back());
        edge("31: back gives PARTS, TRAINS, THE SHAFT and TICK again", GEARED, x -> {
            x.image();
            x.drop();
            x.drop();
            x.drop();
            x.part(0, 0, 0, 0);
            x.shaft(999);
            x.turn(1000);
            due(x.back(), 3);
            due(x.count(0), 3);
            due(x.count(1), 77);
            due(x.count(3), 5);
            due(x.count(4), 1);
            due(x.count(5), 21);
            due(x.of(0, 12), 70);
            due(x.of(2, 3), 300);
            due(x.speed(0, 0), 245);
            due(x.speed(0, 1), 32);
        });
        edge("31: back gives the TEETH again, where others stand by then", GEARED, x -> {
            x.image();
            int[] kept = {20, 50, 70, 40, 60, 80};
            for (int pair = 0; pair < 3; pair++) {
                x.ungear(0);
            }
            for (int pair = 0; pair < 3; pair++) {
                x.gear(0, 101 + pair, 111 + pair);
            }
            x.back();
            for (int pair = 0; pair < 3; pair++) {
                due(x.of(0, 10 + pair), kept[pair]);
                due(x.of(0, 20 + pair), kept[3 + pair]);
            }
        });
        edge("31: SHEETS aren't kept: they stay as they are", x -> {
            x.sheet(0, 0, 2);
            x.put(0, 0, 5);
            x.sheet(1, 1, 1);
            x.image();
            x.put(0, 0, 6);
            x.sheet(1, -1, 0);
            x.sheet(2, 1, 3);
            x.back();
            due(x.item(0, 0), 6);
            due(x.item(1, 0), NO);
            due(x.item(2, 2), 0);
            due(x.item(3, 0), NO);
        });
        edge("31: THE TAPE isn't kept: it stays as it is", x -> {
            TextsTest.feed(x, "shaft 7");
            x.image();
            TextsTest.feed(x, "8");
            x.back();
            due(x.count(2), 8);
            due(x.text(), 1);
            due(x.count(5), 78);
            x.back();
            due(x.count(2), 0);
        });
        edge("31: THE IMAGE is laid back again and again", TIDE, x -> {
            x.gear(0, 20, 10);
            x.image();
            for (int i = 0; i < 3; i++) {
                x.drop();
                due(x.back(), 1);
                due(x.of(0, 2), 3);
                due(x.of(0, 4), 1);
                x.set(0, 1, 100 + i);
                x.ungear(0);
                x.turn(7);
            }
            due(x.back(), 1);
            due(x.of(0, 2), 3);
            due(x.speed(0, 0), 128);
            due(x.count(1), 0);
        });
        edge("31: from the last TICK it goes back, too", TIDE, x -> {
            x.image();
            x.turn(99999);
            x.back();
            due(x.count(1), 0);
            due(x.turn(99999), 99999);
        });
    }

    /** Used, but no image was kept. */
    private static final Consumer<TideWheels> GEARED_WITHOUT_IMAGE = x -> {
        TIDE.accept(x);
        x.gear(0, 9, 8);
        x.turn(3);
        x.sheet(0, 0, 3);
        TextsTest.feed(x, "shaft 8");
    };

    private static void rowOf(TideWheels x, int sheet, int sort, long... items) {
        x.sheet(sheet, sort, items.length);
        for (int i = 0; i < items.length; i++) {
            x.put(sheet, i, items[i]);
        }
    }

    /** A row of so many, in which any four are a part: kind 1, figure 1, .. */
    private static Consumer<TideWheels> row(int sort, int size) {
        return x -> {
            x.sheet(0, sort, size);
            for (int i = 0; i < size; i++) {
                x.put(0, i, 1);
            }
        };
    }

    private static void load() {
        edge("32: n 0, the least: none come", row(0, 8), x -> {
            due(x.load(0, 0, 0, 0), 0);
            due(x.count(0), 0);
        });
        edge("32: n 0 looks at no place", row(1, 3), x -> {
            due(x.load(0, 1, 3, 0), 0);
            due(x.load(0, 1, 100, 0), 0);
            due(x.load(0, 1, -1, 0), 0);
            due(x.load(0, 1, LEAST, 0), 0);
            due(x.load(0, 1, MOST, 0), 0);
        });
        edge("32: n 6, the most, by a row of just 24", row(0, 24), x -> {
            due(x.load(0, 0, 0, 6), 6);
            due(x.count(0), 6);
            due(x.of(5, 3), 1);
        });
        edge("32: to the last item of the longest row", row(1, 40), x -> {
            x.put(0, 39, 1023);
            due(x.load(0, 1, 16, 6), 6);
            due(x.of(5, 3), 1023);
            due(x.of(4, 3), 1);
        });
        edge("32: four a PART, in their order, from one on", x -> {
            rowOf(x, 0, 0, 99, 5, 9, 999, 1023, 0, 0, 0, 0, 99);
            due(x.load(0, 0, 1, 2), 2);
            due(x.of(0, 0), 5);
            due(x.of(0, 1), 9);
            due(x.of(0, 2), 999);
            due(x.of(0, 3), 1023);
            due(x.of(1, 0), 0);
            due(x.of(1, 3), 0);
        });
        edge("32: of longs their lowest 32 bits", x -> {
            rowOf(x, 0, 0, (7L << 32) + 5, (-1L << 32) + 9, Long.MIN_VALUE + 999, (1L << 32) + 1023);
            due(x.load(0, 0, 0, 1), 1);
            due(x.of(0, 0), 5);
            due(x.of(0, 1), 9);
            due(x.of(0, 2), 999);
            due(x.of(0, 3), 1023);
        });
        edge("32: all 32 of them", x -> {
            rowOf(x, 0, 1, 65536 + 1, 0, 0, 0, 0, 65536 + 1, 0, 0, 0, 0, 65536 + 1, 0, 0, 0, 0, 65536 + 1);
            due(x.load(0, 1, 0, 4), 0);
            x.sheet(1, 0, 16);
            for (int i = 0; i < 16; i++) {
                x.put(1, i, x.item(0, i));
            }
            due(x.load(1, 0, 0, 4), 0);
            due(x.count(0), 0);
        });
        edge("32: of which some are below 0, so that it is left out", x -> {
            rowOf(x, 0, 0, 0, 0, 0, (1L << 32) - 1, 0, 0, 0, 1L << 31);
            due(x.load(0, 0, 0, 2), 0);
            due(x.count(0), 0);
        });
        edge("32: others are left out: those that part would refuse as BAD", x -> {
            rowOf(x, 0, 1, 6, 0, 0, 0, 0, 10, 0, 0, 0, 0, 1000, 0, 0, 0, 0, 1024, -1, 0, 0, 0, 3, 4, 5, 6);
            due(x.load(0, 1, 0, 6), 1);
            due(x.count(0), 1);
            due(x.of(0, 3), 6);
        });
        edge("32: those that have no room are left out", row(0, 24), x -> {
            for (int i = 0; i < 4; i++) {
                x.part(0, 0, 0, 0);
            }
            due(x.load(0, 0, 0, 6), 2);
            due(x.count(0), 6);
            due(x.load(0, 0, 0, 6), 0);
            due(x.count(0), 6);
        });
        edge("32: the row stays as it is", row(1, 8), x -> {
            x.load(0, 1, 0, 2);
            due(x.item(0, 0), 1);
            due(x.item(0, 7), 1);
            due(x.item(0, 8), NO);
        });
    }

    private static void loadOutside() {
        edge("32: -12: what stood ahead came", row(0, 23), x -> {
            due(x.load(0, 0, 0, 6), OUTSIDE);
            due(x.count(0), 5);
        });
        edge("32: -12: by one item only, in the longest row", row(1, 40), x -> {
            due(x.load(0, 1, 17, 6), OUTSIDE);
            due(x.count(0), 5);
        });
        edge("32: -12: what stood ahead came, but for others", x -> {
            rowOf(x, 0, 0, 1, 2, 3, 4, 6, 0, 0, 0, 5, 6, 7, 8, 1, 1, 1);
            due(x.load(0, 0, 0, 4), OUTSIDE);
            due(x.count(0), 2);
            due(x.of(1, 3), 8);
        });
        edge("32: -12: though there is no room for it", row(0, 8), x -> {
            for (int i = 0; i < 6; i++) {
                x.part(0, 0, 0, 0);
            }
            due(x.load(0, 0, 0, 2), 0);
            due(x.load(0, 0, 0, 3), OUTSIDE);
        });
        refuses("32: -12: a row that is empty, or of three", row(0, 3), OUTSIDE, x -> x.load(0, 0, 0, 1),
            x -> {
                x.film(1, 0, 0);
                long answer = x.load(1, 0, 0, 1);
                x.sheet(1, -1, 0);
                return answer;
            });
        refuses("32: -12: from below 0", row(0, 40), OUTSIDE, x -> x.load(0, 0, -1, 1), x -> x.load(0, 0, -4, 2),
            x -> x.load(0, 0, LEAST, 6));
        refuses("32: -12: from beyond the row's end, also where the sum goes around", row(1, 40), OUTSIDE,
            x -> x.load(0, 1, 37, 1), x -> x.load(0, 1, 40, 1), x -> x.load(0, 1, MOST, 1), x -> x.load(0, 1, MOST - 3, 6));
    }

    private static void loadRefused() {
        refuses("32: SHEET below 0 or above 3 is BAD", RICH, BAD, x -> x.load(-1, 0, 0, 1), x -> x.load(4, 0, 0, 1),
            x -> x.load(LEAST, 0, 0, 1), x -> x.load(MOST, 0, 0, 1));
        refuses("32: sort below 0 or above 1 is BAD", RICH, BAD, x -> x.load(0, -1, 0, 1), x -> x.load(0, 2, 0, 1),
            x -> x.load(0, LEAST, 0, 1), x -> x.load(0, MOST, 0, 1));
        refuses("32: n below 0 or above 6 is BAD", RICH, BAD, x -> x.load(0, 0, 0, -1), x -> x.load(0, 0, 0, 7),
            x -> x.load(0, 0, 0, LEAST), x -> x.load(0, 0, 0, MOST));
        refuses("32: -13: longs taken for ints, ints for longs", RICH, OTHER, x -> x.load(0, 1, 0, 1),
            x -> x.load(1, 0, 0, 1), x -> x.load(3, 1, 0, 0));
        refuses("32: -13 is ahead of -12", RICH, OTHER, x -> x.load(0, 1, -1, 1), x -> x.load(1, 0, 40, 6));
        refuses("32: -11: it is missing, for both sorts", RICH, MISSING, x -> x.load(2, 0, 0, 1), x -> x.load(2, 1, 0, 1),
            x -> x.load(2, 0, 0, 0), x -> x.load(2, 1, 0, 0));
        refuses("32: -11 is ahead of -12", RICH, MISSING, x -> x.load(2, 0, -1, 1), x -> x.load(2, 1, MOST, 6));
        refuses("32: BAD is ahead of -13 and -11", RICH, BAD, x -> x.load(0, 1, 0, 7), x -> x.load(2, 0, 0, 7),
            x -> x.load(2, 2, 0, 1), x -> x.load(1, 0, 0, -1));
    }

    private static void count() {
        edge("33: a new object's", x -> {
            int[] due = {0, 0, 0, 0, 0, 64};
            for (int what = 0; what <= 5; what++) {
                due("what " + what, x.count(what), due[what]);
            }
        });
        edge("33: the most of each", x -> {
            for (int i = 0; i < 6; i++) {
                x.part(0, 0, 0, 0);
                x.gear(i, 200, 200);
                x.gear(i, 200, 200);
                x.gear(i, 200, 200);
            }
            x.turn(99999);
            x.shaft(999);
            for (int i = 0; i < 12; i++) {
                x.feed(5, 1, 1, 1, 1, 1);
            }
            int[] due = {6, 99999, 60, 18, 6, 999};
            for (int what = 0; what <= 5; what++) {
                due("what " + what, x.count(what), due[what]);
            }
        });
        edge("33: of dropped PARTS neither PAIRS nor JAMS are counted", RICH, x -> {
            due(x.count(3), 3);
            due(x.count(4), 1);
            x.drop();
            x.drop();
            due(x.count(3), 1);
            due(x.count(4), 0);
            x.drop();
            due(x.count(3), 0);
        });
        edge("33: a PART with two PAIRS that don't FIT has one JAM", TIDE, x -> {
            x.gear(0, 200, 200);
            x.gear(0, 8, 200);
            due(x.count(4), 1);
            x.ungear(0);
            due(x.count(4), 1);
        });
        refuses("33: what below 0 or above 5 is BAD", RICH, BAD, x -> x.count(-1), x -> x.count(6), x -> x.count(LEAST),
            x -> x.count(MOST));
    }

    private static void sheet() {
        edge("34: n 0, the least: an empty row, that is not missing", x -> {
            due(x.sheet(0, 0, 0), 1);
            due(x.item(0, 0), NO);
            due(x.put(0, 0, 1), OUTSIDE);
            due(x.sheet(1, 1, 0), 1);
            due(x.put(1, 0, 1), OUTSIDE);
        });
        edge("34: n 40, the most: all 0", x -> {
            due(x.sheet(3, 1, 40), 1);
            for (int i = 0; i < 40; i++) {
                due(x.item(3, i), 0);
            }
            due(x.item(3, 40), NO);
        });
        edge("34: a row becomes one anew, all 0", x -> {
            rowOf(x, 0, 0, 5, 6, 7);
            due(x.sheet(0, 0, 3), 1);
            due(x.item(0, 0), 0);
            due(x.item(0, 2), 0);
        });
        edge("34: what a shorter row left out is 0 in a longer one", x -> {
            rowOf(x, 0, 0, 5, 6, 7);
            x.sheet(0, 0, 1);
            due(x.item(0, 1), NO);
            x.sheet(0, 1, 3);
            due(x.item(0, 1), 0);
            due(x.item(0, 2), 0);
        });
        edge("34: behind missing it is all 0, too", x -> {
            rowOf(x, 0, 0, 5, 6, 7);
            x.sheet(0, -1, 0);
            x.sheet(0, 0, 3);
            due(x.item(0, 0), 0);
            due(x.item(0, 2), 0);
        });
        edge("34: sorts 0 and 1: longs, ints", x -> {
            x.sheet(0, 0, 1);
            x.sheet(1, 1, 1);
            x.put(0, 0, 1L << 40);
            x.put(1, 0, 1L << 40);
            due(x.item(0, 0), 1L << 40);
            due(x.item(1, 0), 0);
        });
        edge("34: a row becomes missing, whatever n is", x -> {
            for (int n : new int[] {0, 1, -1, 40, 41, LEAST, MOST}) {
                x.sheet(2, 0, 3);
                due(x.item(2, 0), 0);
                due("n " + n, x.sheet(2, -1, n), 1);
                due(x.item(2, 0), NO);
                due(x.put(2, 0, 1), MISSING);
            }
        });
        edge("34: a missing one becomes missing", x -> {
            due(x.sheet(3, -1, -5), 1);
            due(x.put(3, 0, 1), MISSING);
        });
        edge("34: SHEETS 0 and 3 are two of four", x -> {
            for (int sheet = 0; sheet < 4; sheet++) {
                due(x.sheet(sheet, 0, 1 + sheet), 1);
                x.put(sheet, sheet, 50 + sheet);
            }
            for (int sheet = 0; sheet < 4; sheet++) {
                due(x.item(sheet, sheet), 50 + sheet);
                due(x.item(sheet, sheet + 1), NO);
            }
        });
    }

    private static void sheetRefused() {
        refuses("34: SHEET below 0 or above 3 is BAD", RICH, BAD, x -> x.sheet(-1, 0, 1), x -> x.sheet(4, 0, 1),
            x -> x.sheet(LEAST, -1, 1), x -> x.sheet(MOST, -1, 1));
        refuses("34: sort below -1 or above 1 is BAD", RICH, BAD, x -> x.sheet(0, -2, 1), x -> x.sheet(0, 2, 1),
            x -> x.sheet(1, LEAST, 1), x -> x.sheet(2, MOST, 1));
        refuses("34: n above 40 is BAD", RICH, BAD, x -> x.sheet(0, 0, 41), x -> x.sheet(1, 1, 41), x -> x.sheet(2, 0, MOST));
        refuses("34: a size below 0 is -14", RICH, BELOW, x -> x.sheet(0, 0, -1), x -> x.sheet(1, 1, -1),
            x -> x.sheet(2, 0, LEAST));
        refuses("34: BAD is ahead of -14", RICH, BAD, x -> x.sheet(4, 0, -1), x -> x.sheet(0, 2, -1), x -> x.sheet(0, -2, -1));
    }

    private static void put() {
        edge("35: item 0 and the last one of the longest row", x -> {
            x.sheet(0, 0, 40);
            due(x.put(0, 0, 5), 1);
            due(x.put(0, 39, 6), 1);
            due(x.item(0, 0), 5);
            due(x.item(0, 39), 6);
            due(x.item(0, 1), 0);
            due(x.item(0, 38), 0);
        });
        edge("35: of longs the least and the greatest", x -> {
            x.sheet(0, 0, 2);
            due(x.put(0, 0, Long.MIN_VALUE), 1);
            due(x.put(0, 1, Long.MAX_VALUE), 1);
            due(x.item(0, 0), Long.MIN_VALUE);
            due(x.item(0, 1), Long.MAX_VALUE);
        });
        edge("35: of ints the lowest 32 bits", x -> {
            x.sheet(0, 1, 1);
            long[] putAndDue = {1L << 32, 0, (1L << 32) + 5, 5, 1L << 31, LEAST, (1L << 32) - 1, -1, Long.MIN_VALUE, 0,
                Long.MAX_VALUE, -1, MOST, MOST, LEAST, LEAST, -(1L << 31) - 1, MOST};
            for (int i = 0; i < putAndDue.length; i += 2) {
                due(x.put(0, 0, putAndDue[i]), 1);
                due("of " + putAndDue[i], x.item(0, 0), putAndDue[i + 1]);
            }
        });
        refuses("35: SHEET below 0 or above 3 is BAD", RICH, BAD, x -> x.put(-1, 0, 1), x -> x.put(4, 0, 1),
            x -> x.put(LEAST, 0, 1), x -> x.put(MOST, 0, 1));
        refuses("35: a missing SHEET is -11, wherever i is", RICH, MISSING, x -> x.put(2, 0, 1), x -> x.put(2, -1, 1),
            x -> x.put(2, 40, 1));
        refuses("35: i below 0 is -12", RICH, OUTSIDE, x -> x.put(0, -1, 1), x -> x.put(1, LEAST, 1));
        refuses("35: i at the row's size or beyond is -12", RICH, OUTSIDE, x -> x.put(0, 6, 1), x -> x.put(1, 9, 1),
            x -> x.put(3, 8, 1), x -> x.put(0, 39, 1), x -> x.put(0, 40, 1), x -> x.put(0, MOST, 1));
        refuses("35: an empty row has no item: -12", x -> x.sheet(0, 1, 0), OUTSIDE, x -> x.put(0, 0, 1));
    }

    private static void item() {
        edge("36: item 0 and the last one", RICH, x -> {
            due(x.item(0, 0), 1L << 40);
            due(x.item(0, 5), -7);
            due(x.item(1, 8), 34);
        });
        refuses("36: no such SHEET is NO", RICH, NO, x -> x.item(-1, 0), x -> x.item(4, 0), x -> x.item(LEAST, 0),
            x -> x.item(MOST, 0));
        refuses("36: a missing one is NO", RICH, NO, x -> x.item(2, 0), x -> x.item(2, -1), x -> x.item(2, 40));
        refuses("36: no such item is NO", RICH, NO, x -> x.item(0, -1), x -> x.item(0, 6), x -> x.item(1, 9),
            x -> x.item(0, LEAST), x -> x.item(0, MOST), x -> x.item(0, 39));
        refuses("36: an empty row has no item", x -> x.sheet(0, 0, 0), NO, x -> x.item(0, 0), x -> x.item(0, -1));
    }

    /** Sheets 0 and 1 of sort 0, of five and three. */
    private static final Consumer<TideWheels> TWO_ROWS = x -> {
        rowOf(x, 0, 0, 10, 11, 12, 13, 14);
        rowOf(x, 1, 0, 20, 21, 22);
    };

    private static void rowIs(TideWheels x, int sheet, long... items) {
        for (int i = 0; i < items.length; i++) {
            due("item " + i, x.item(sheet, i), items[i]);
        }
        due("no more items", x.item(sheet, items.length), NO);
    }

    private static void copy() {
        edge("37: n 0 changes nothing, also at the rows' ends", TWO_ROWS, x -> {
            due(x.copy(0, 0, 1, 0, 0), 0);
            due(x.copy(0, 5, 1, 3, 0), 0);
            rowIs(x, 0, 10, 11, 12, 13, 14);
            rowIs(x, 1, 20, 21, 22);
        });
        edge("37: n 0 of empty rows", x -> {
            x.sheet(0, 0, 0);
            x.sheet(1, 0, 0);
            due(x.copy(0, 0, 1, 0, 0), 0);
        });
        edge("37: to both rows' last item", TWO_ROWS, x -> {
            due(x.copy(0, 3, 1, 1, 2), 2);
            rowIs(x, 0, 10, 11, 12, 13, 14);
            rowIs(x, 1, 20, 13, 14);
        });
        edge("37: all of a row", TWO_ROWS, x -> {
            due(x.copy(1, 0, 0, 2, 3), 3);
            rowIs(x, 0, 10, 11, 20, 21, 22);
        });
        edge("37: 40 numbers, the most", x -> {
            x.sheet(0, 1, 40);
            x.sheet(3, 1, 40);
            x.put(0, 0, 5);
            x.put(0, 39, -6);
            due(x.copy(0, 0, 3, 0, 40), 40);
            due(x.item(3, 0), 5);
            due(x.item(3, 39), -6);
        });
        edge("37: within a SHEET, as they were: to later items", TWO_ROWS, x -> {
            due(x.copy(0, 0, 0, 1, 4), 4);
            rowIs(x, 0, 10, 10, 11, 12, 13);
        });
        edge("37: within a SHEET, as they were: to earlier items", TWO_ROWS, x -> {
            due(x.copy(0, 1, 0, 0, 4), 4);
            rowIs(x, 0, 11, 12, 13, 14, 14);
        });
        edge("37: onto themselves", TWO_ROWS, x -> {
            due(x.copy(0, 0, 0, 0, 5), 5);
            rowIs(x, 0, 10, 11, 12, 13, 14);
        });
        edge("37: the greatest longs come whole", TWO_ROWS, x -> {
            x.put(0, 0, Long.MAX_VALUE);
            x.put(0, 1, Long.MIN_VALUE);
            due(x.copy(0, 0, 1, 0, 2), 2);
            rowIs(x, 1, Long.MAX_VALUE, Long.MIN_VALUE, 22);
        });
    }

    private static void copyRefused() {
        refuses("37: SHEET below 0 or above 3 is BAD", RICH, BAD, x -> x.copy(-1, 0, 0, 0, 1), x -> x.copy(4, 0, 0, 0, 1),
            x -> x.copy(LEAST, 0, 0, 0, 1), x -> x.copy(MOST, 0, 0, 0, 1));
        refuses("37: so is another one", RICH, BAD, x -> x.copy(0, 0, -1, 0, 1), x -> x.copy(0, 0, 4, 0, 1),
            x -> x.copy(0, 0, LEAST, 0, 1), x -> x.copy(0, 0, MOST, 0, 1));
        refuses("37: -11, whichever is missing", RICH, MISSING, x -> x.copy(2, 0, 0, 0, 1), x -> x.copy(0, 0, 2, 0, 1),
            x -> x.copy(2, 0, 2, 0, 1), x -> x.copy(2, 0, 1, 0, 0));
        refuses("37: BAD is ahead of -11", RICH, BAD, x -> x.copy(2, 0, 4, 0, 1), x -> x.copy(-1, 0, 2, 0, 1));
        refuses("37: -13: longs to ints, ints to longs", RICH, OTHER, x -> x.copy(0, 0, 1, 0, 1), x -> x.copy(1, 0, 0, 0, 1),
            x -> x.copy(1, 0, 3, 0, 0));
        refuses("37: -11 and -13 are ahead of -12", RICH, OTHER, x -> x.copy(0, -1, 1, 0, 1), x -> x.copy(0, 0, 1, 0, -1));
        refuses("37: -11 is ahead of -12", RICH, MISSING, x -> x.copy(2, -1, 0, 0, 1), x -> x.copy(0, 0, 2, 0, -1));
        refuses("37: n below 0 is -12", RICH, OUTSIDE, x -> x.copy(0, 0, 3, 0, -1), x -> x.copy(0, 3, 0, 3, -1),
            x -> x.copy(0, 0, 3, 0, LEAST));
        refuses("37: i below 0 is -12", RICH, OUTSIDE, x -> x.copy(0, -1, 3, 0, 1), x -> x.copy(0, LEAST, 3, 0, 1),
            x -> x.copy(0, -1, 3, 0, 0));
        refuses("37: j below 0 is -12", RICH, OUTSIDE, x -> x.copy(0, 0, 3, -1, 1), x -> x.copy(0, 0, 3, LEAST, 1),
            x -> x.copy(0, 0, 3, -1, 0));
        refuses("37: beyond the first row's end is -12", RICH, OUTSIDE, x -> x.copy(0, 0, 3, 0, 7),
            x -> x.copy(0, 5, 3, 0, 2), x -> x.copy(0, 6, 3, 0, 1), x -> x.copy(0, 7, 3, 0, 0));
        refuses("37: beyond the other row's end is -12", RICH, OUTSIDE, x -> x.copy(3, 0, 0, 0, 7),
            x -> x.copy(3, 0, 0, 5, 2), x -> x.copy(3, 0, 0, 6, 1), x -> x.copy(3, 0, 0, 7, 0));
        refuses("37: -12 also where a sum goes around", RICH, OUTSIDE, x -> x.copy(0, MOST, 3, 0, 1),
            x -> x.copy(0, 1, 3, 0, MOST), x -> x.copy(0, 0, 3, MOST, 1), x -> x.copy(0, MOST, 3, MOST, MOST));
    }
}
