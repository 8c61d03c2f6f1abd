/** Promises 30 to 37: the image, the host. */
final class HostTest {
    private static final int NONE = -1, BAD = -2, STATE = -3;
    private static final int MISSING = -11, OUTSIDE = -12, OTHER_SORT = -13, BELOW_ZERO = -14;
    private static final long NO = Long.MIN_VALUE;

    private HostTest() { }

    static void all() {
        Check.test("30, 31: image and back", HostTest::image);
        Check.test("30, 31: what an image leaves out", HostTest::imageLeavesOut);
        Check.test("31: back, refusal", HostTest::backRefused);
        Check.test("32: load", HostTest::load);
        Check.test("32: load of ints and longs", HostTest::loadSorts);
        Check.test("32: load, places outside", HostTest::loadOutside);
        Check.test("32: load, refusals", HostTest::loadRefused);
        Check.test("33: count", HostTest::count);
        Check.test("34: sheet", HostTest::sheet);
        Check.test("34: sheet, refusals", HostTest::sheetRefused);
        Check.test("35: put", HostTest::put);
        Check.test("36: item", HostTest::item);
        Check.test("37: copy", HostTest::copy);
        Check.test("37: copy within a sheet", HostTest::copyWithin);
        Check.test("37: copy, refusals", HostTest::copyRefused);
    }

    private static void sheetOf(TideWheels x, int sheet, int sort, long... items) {
        x.sheet(sheet, sort, items.length);
        for (int i = 0; i < items.length; i++) {
            x.put(sheet, i, items[i]);
        }
    }

    private static void itemsAre(TideWheels x, int sheet, long... due) {
        for (int i = 0; i < due.length; i++) {
            Check.due("item(" + sheet + ", " + i + ")", x.item(sheet, i), due[i]);
        }
        Check.due("no more items", x.item(sheet, due.length), NO);
    }

    private static TideWheels two() {
        TideWheels x = new TideWheels();
        x.part(1, 2, 300, 4);
        x.part(5, 6, 700, 8);
        x.gear(0, 20, 30);
        x.gear(0, 8, 200);
        x.gear(1, 50, 27);
        x.shaft(33);
        x.turn(77);
        return x;
    }

    private static void image() {
        TideWheels x = two();
        long before = Told.of(x);
        Check.refused("image()", x, x::image, 2);
        for (int round = 0; round < 2; round++) {
            x.set(0, 0, 9);
            x.set(0, 1, 9);
            x.set(0, 2, 9);
            x.kind(1, 0);
            x.ungear(0);
            x.ungear(1);
            x.gear(1, 9, 10);
            x.gear(1, 11, 12);
            x.shaft(500);
            x.turn(1000);
            x.part(0, 0, 0, 0);
            Check.due("back()", x.back(), 2);
            Check.due("all is as it was", Told.of(x), before);
            x.drop();
            x.drop();
            Check.due("back()", x.back(), 2);
            Check.due("all is as it was", Told.of(x), before);
        }
        x.drop();
        Check.due("a later image", x.image(), 1);
        x.drop();
        Check.due("back()", x.back(), 1);
        Check.due("of(0, 2)", x.of(0, 2), 300);
        x.drop();
        Check.due("an image of none", x.image(), 0);
        x.part(0, 0, 0, 0);
        Check.due("back()", x.back(), 0);
        Check.due("count(0)", x.count(0), 0);
    }

    private static void imageLeavesOut() {
        TideWheels x = two();
        sheetOf(x, 0, 1, 1, 2);
        TextsTest.feed(x, "shaft");
        x.image();
        sheetOf(x, 0, 0, 7, 8, 9);
        sheetOf(x, 1, 0, 5);
        TextsTest.feed(x, " 9");
        x.back();
        itemsAre(x, 0, 7, 8, 9);
        itemsAre(x, 1, 5);
        Check.due("bytes", x.count(2), 7);
        Check.due("text()", x.text(), 1);
        Check.due("the shaft", x.count(5), 9);
        x.back();
        Check.due("the shaft", x.count(5), 33);
        Check.due("speed(1, 0)", x.speed(1, 0), 33 * 50 / 3);
        Check.due("speed(1, 1)", x.speed(1, 1), 9);
    }

    private static void backRefused() {
        TideWheels x = two();
        Check.refused("back()", x, x::back, STATE);
        x.drop();
        Check.refused("back()", x, x::back, STATE);
        x.image();
        Check.due("back()", x.back(), 1);
        Check.due("back() of another one", new TideWheels().back(), STATE);
    }

    private static void partIs(TideWheels x, int part, int... traits) {
        for (int what = 0; what < 4; what++) {
            Check.due("of(" + part + ", " + what + ")", x.of(part, what), traits[what]);
        }
        Check.due("of(" + part + ", 4)", x.of(part, 4), 0);
    }

    private static void load() {
        TideWheels x = new TideWheels();
        sheetOf(x, 0, 1, 9, 0, 1, 2, 3, 6, 0, 0, 0, 1, 2, 3, 4, 2, 3, 4, 1024, 5, 9, 999, 1023, 7, 7, 7);
        Check.due("load of none", x.load(0, 1, 1, 0), 0);
        Check.due("load", x.load(0, 1, 1, 5), 3);
        partIs(x, 0, 0, 1, 2, 3);
        partIs(x, 1, 1, 2, 3, 4);
        partIs(x, 2, 5, 9, 999, 1023);
        Check.due("parts", x.count(0), 3);
        Check.due("load again", x.load(0, 1, 1, 5), 3);
        Check.due("parts", x.count(0), 6);
        Check.due("load, all full", x.load(0, 1, 1, 5), 0);
        x.drop();
        Check.due("load, room for one", x.load(0, 1, 1, 3), 1);
        partIs(x, 5, 0, 1, 2, 3);
        TideWheels y = new TideWheels();
        sheetOf(y, 2, 0, 0, 0, 0, 0, 1, 1, 1, 1, 2, 2, 2, 2, 3, 3, 3, 3, 4, 4, 4, 4, 5, 5, 5, 5);
        Check.due("load of six", y.load(2, 0, 0, 6), 6);
        for (int i = 0; i < 6; i++) {
            partIs(y, i, i, i, i, i);
        }
    }

    private static void loadSorts() {
        TideWheels x = new TideWheels();
        sheetOf(x, 0, 0, (1L << 32) + 3, -1L << 40, (5L << 33) + 12, (1L << 63) + 1000, -1, 0, 0, 0);
        Check.due("load by lowest bits", x.load(0, 0, 0, 2), 1);
        partIs(x, 0, 3, 0, 12, 1000);
        Check.refused("longs taken for ints", x, () -> x.load(0, 1, 0, 1), OTHER_SORT);
        sheetOf(x, 0, 1, 0, 0, 0, 0);
        Check.refused("ints taken for longs", x, () -> x.load(0, 0, 0, 1), OTHER_SORT);
        Check.refused("of another sort, and outside", x, () -> x.load(0, 0, 9, 1), OTHER_SORT);
        Check.due("load of ints", x.load(0, 1, 0, 1), 1);
    }

    private static TideWheels elevenItems() {
        TideWheels x = new TideWheels();
        sheetOf(x, 0, 1, 0, 0, 0, 0, 1, 1, 1, 1, 2, 2, 2);
        return x;
    }

    private static void loadOutside() {
        for (int from : new int[] {-1, -4, 8, 11, 12, Integer.MIN_VALUE, Integer.MAX_VALUE, Integer.MAX_VALUE - 3}) {
            TideWheels y = elevenItems();
            Check.refused("load from " + from, y, () -> y.load(0, 1, from, 1), OUTSIDE);
        }
        TideWheels x = elevenItems();
        Check.due("load from 7", x.load(0, 1, 7, 1), 1);
        x.drop();
        Check.due("what stood ahead came", x.load(0, 1, 0, 3), OUTSIDE);
        Check.due("parts", x.count(0), 2);
        partIs(x, 0, 0, 0, 0, 0);
        partIs(x, 1, 1, 1, 1, 1);
        x.load(0, 1, 0, 2);
        x.load(0, 1, 0, 2);
        Check.due("all full, and outside", x.load(0, 1, 0, 3), OUTSIDE);
        Check.refused("from ahead of the row on, none of it comes", x, () -> x.load(0, 1, -4, 2), OUTSIDE);
    }

    private static void loadRefused() {
        TideWheels x = new TideWheels();
        sheetOf(x, 0, 1, 0, 0, 0, 0);
        int[][] calls = {
            {-1, 1, 0, 1, BAD}, {4, 1, 0, 1, BAD}, {0, -1, 0, 1, BAD}, {0, 2, 0, 1, BAD}, {0, 1, 0, -1, BAD},
            {0, 1, 0, 7, BAD}, {1, 1, 0, 1, MISSING}, {1, 0, 0, 1, MISSING}, {1, 2, 0, 1, BAD}, {1, 1, 0, 7, BAD},
            {1, -1, 0, 1, BAD}, {1, 1, 9, 1, MISSING}, {0, 0, 0, 0, OTHER_SORT},
        };
        for (int[] c : calls) {
            Check.refused("load", x, () -> x.load(c[0], c[1], c[2], c[3]), c[4]);
        }
    }

    private static void count() {
        TideWheels x = two();
        x.part(0, 0, 0, 0);
        x.gear(2, 150, 151);
        x.gear(2, 150, 151);
        TextsTest.feed(x, "abc");
        int[] due = {3, 77, 3, 5, 2, 33};
        for (int what = 0; what < 6; what++) {
            Check.due("count(" + what + ")", x.count(what), due[what]);
        }
        for (int what : new int[] {-1, 6, Integer.MIN_VALUE, Integer.MAX_VALUE}) {
            Check.due("count(" + what + ")", x.count(what), BAD);
        }
        x.drop();
        Check.due("count(3)", x.count(3), 3);
        Check.due("count(4)", x.count(4), 1);
        x.ungear(0);
        Check.due("count(4)", x.count(4), 0);
    }

    private static void sheet() {
        for (int sheet = 0; sheet < 4; sheet++) {
            TideWheels x = new TideWheels();
            for (int sort = 0; sort < 2; sort++) {
                Check.due("sheet of none", x.sheet(sheet, sort, 0), 1);
                Check.due("it isn't missing", x.put(sheet, 0, 1), OUTSIDE);
                Check.due("sheet of 40", x.sheet(sheet, sort, 40), 1);
                itemsAre(x, sheet, new long[40]);
                x.put(sheet, 0, 5);
                x.put(sheet, 39, 5);
                Check.due("sheet of 40 anew", x.sheet(sheet, sort, 40), 1);
                itemsAre(x, sheet, new long[40]);
            }
            for (int n : new int[] {0, -1, 41, Integer.MIN_VALUE}) {
                x.sheet(sheet, 0, 3);
                Check.due("sheet that's missing", x.sheet(sheet, -1, n), 1);
                Check.due("it is missing", x.put(sheet, 0, 1), MISSING);
                Check.due("it is missing", x.item(sheet, 0), NO);
            }
        }
    }

    private static void sheetRefused() {
        TideWheels x = new TideWheels();
        sheetOf(x, 0, 1, 5, 6);
        int[][] calls = {
            {-1, 0, 1, BAD}, {4, 0, 1, BAD}, {0, -2, 1, BAD}, {0, 2, 1, BAD}, {0, 0, 41, BAD}, {0, 1, 41, BAD},
            {0, 0, -1, BELOW_ZERO}, {0, 1, Integer.MIN_VALUE, BELOW_ZERO}, {0, 0, Integer.MAX_VALUE, BAD},
            {4, 0, -1, BAD}, {0, 2, -1, BAD}, {4, -1, 0, BAD}, {-1, -1, 0, BAD},
        };
        for (int[] c : calls) {
            Check.refused("sheet", x, () -> x.sheet(c[0], c[1], c[2]), c[3]);
        }
    }

    private static void put() {
        TideWheels x = new TideWheels();
        x.sheet(0, 0, 3);
        x.sheet(1, 1, 3);
        long big = (7L << 32) + 0xFFFFFFFEL;
        Check.due("put of longs", x.put(0, 2, big), 1);
        Check.due("put of ints", x.put(1, 0, big), 1);
        Check.due("put of longs", x.put(0, 0, NO), 1);
        itemsAre(x, 0, NO, 0, big);
        itemsAre(x, 1, -2, 0, 0);
        int[][] calls = {
            {-1, 0, BAD}, {4, 0, BAD}, {2, 0, MISSING}, {2, 9, MISSING}, {0, -1, OUTSIDE}, {0, 3, OUTSIDE},
            {1, Integer.MAX_VALUE, OUTSIDE}, {1, Integer.MIN_VALUE, OUTSIDE}, {4, 9, BAD},
        };
        for (int[] c : calls) {
            Check.refused("put", x, () -> x.put(c[0], c[1], 1), c[2]);
        }
    }

    private static void item() {
        TideWheels x = new TideWheels();
        sheetOf(x, 0, 0, 5, -6);
        sheetOf(x, 1, 1, 1L << 31, 1L << 32, -1);
        sheetOf(x, 3, 0, 9);
        itemsAre(x, 0, 5, -6);
        itemsAre(x, 1, Integer.MIN_VALUE, 0, -1);
        itemsAre(x, 3, 9);
        int[][] calls = {
            {-1, 0}, {4, 0}, {2, 0}, {0, -1}, {0, 2}, {0, Integer.MAX_VALUE}, {0, Integer.MIN_VALUE},
            {Integer.MAX_VALUE, 0}, {Integer.MIN_VALUE, 0},
        };
        for (int[] c : calls) {
            Check.due("item(" + c[0] + ", " + c[1] + ")", x.item(c[0], c[1]), NO);
        }
    }

    private static void copy() {
        TideWheels x = new TideWheels();
        sheetOf(x, 0, 0, 1L << 40, 2, 3, 4);
        sheetOf(x, 1, 0, 5, 6, 7);
        Check.due("copy", x.copy(0, 0, 1, 1, 2), 2);
        itemsAre(x, 0, 1L << 40, 2, 3, 4);
        itemsAre(x, 1, 5, 1L << 40, 2);
        Check.due("copy of none", x.copy(0, 4, 1, 3, 0), 0);
        itemsAre(x, 1, 5, 1L << 40, 2);
        sheetOf(x, 2, 1, 1, 2);
        sheetOf(x, 3, 1, 0, 0, 0);
        Check.due("copy of ints", x.copy(2, 0, 3, 1, 2), 2);
        itemsAre(x, 3, 0, 1, 2);
    }

    private static void copyWithin() {
        TideWheels x = new TideWheels();
        sheetOf(x, 0, 0, 1, 2, 3, 4, 5);
        Check.due("copy on", x.copy(0, 0, 0, 1, 4), 4);
        itemsAre(x, 0, 1, 1, 2, 3, 4);
        sheetOf(x, 0, 0, 1, 2, 3, 4, 5);
        Check.due("copy back", x.copy(0, 1, 0, 0, 4), 4);
        itemsAre(x, 0, 2, 3, 4, 5, 5);
        Check.due("copy onto itself", x.copy(0, 0, 0, 0, 5), 5);
        itemsAre(x, 0, 2, 3, 4, 5, 5);
    }

    private static void copyRefused() {
        int max = Integer.MAX_VALUE;
        int min = Integer.MIN_VALUE;
        int[][] calls = {
            {-1, 0, 1, 0, 1, BAD}, {4, 0, 1, 0, 1, BAD}, {0, 0, -1, 0, 1, BAD}, {0, 0, 4, 0, 1, BAD},
            {4, 0, 3, 0, 1, BAD}, {3, 0, 4, 0, 1, BAD}, {3, 0, 0, 0, 1, MISSING}, {0, 0, 3, 0, 1, MISSING},
            {3, 0, 3, 0, 1, MISSING}, {3, -1, 2, 0, -1, MISSING}, {0, 0, 2, 0, 1, OTHER_SORT},
            {2, 0, 0, 0, 1, OTHER_SORT}, {2, -1, 0, 0, -1, OTHER_SORT}, {0, -1, 1, 0, 1, OUTSIDE},
            {0, 0, 1, -1, 1, OUTSIDE}, {0, 0, 1, 0, -1, OUTSIDE}, {0, 2, 1, 0, 3, OUTSIDE}, {0, 0, 1, 1, 3, OUTSIDE},
            {0, 0, 1, 0, 4, OUTSIDE}, {0, 4, 1, 0, 1, OUTSIDE}, {0, 0, 1, 3, 1, OUTSIDE}, {0, 5, 1, 0, 0, OUTSIDE},
            {0, 0, 1, 4, 0, OUTSIDE}, {0, max, 1, 0, 1, OUTSIDE}, {0, 1, 1, 1, max, OUTSIDE}, {0, min, 1, 0, 1, OUTSIDE},
            {0, 0, 1, max, max, OUTSIDE}, {0, 0, 1, 0, min, OUTSIDE}, {0, max, 1, max, max, OUTSIDE},
        };
        for (int[] c : calls) {
            TideWheels x = new TideWheels();
            sheetOf(x, 0, 0, 1, 2, 3, 4);
            sheetOf(x, 1, 0, 5, 6, 7);
            sheetOf(x, 2, 1, 8, 9);
            Check.refused("copy", x, () -> x.copy(c[0], c[1], c[2], c[3], c[4]), c[5]);
        }
    }
}
