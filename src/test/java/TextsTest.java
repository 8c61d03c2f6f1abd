/** Promises 28 and 29: texts. */
final class TextsTest {
    private static final int BAD = -2, FULL = -4;

    private TextsTest() { }

    static void all() {
        Check.test("28: feed", TextsTest::feed);
        Check.test("28: feed, refusals", TextsTest::feedRefused);
        Check.test("29: text, each clause", TextsTest::clauses);
        Check.test("29: text, refused clauses aren't done", TextsTest::refusedClauses);
        Check.test("29: text, tokens", TextsTest::tokens);
        Check.test("29: text, faults", TextsTest::faults);
        Check.test("29: text, a fault changes nothing but the tape", TextsTest::faultChangesNothing);
    }

    static void feed(TideWheels x, String text) {
        for (int at = 0; at < text.length(); at += 5) {
            int[] bytes = new int[5];
            int n = Math.min(5, text.length() - at);
            for (int i = 0; i < n; i++) {
                bytes[i] = text.charAt(at + i);
            }
            x.feed(n, bytes[0], bytes[1], bytes[2], bytes[3], bytes[4]);
        }
    }

    private static void textIs(TideWheels x, String text, int due) {
        feed(x, text);
        Check.due("bytes of «" + text + "»", x.count(2), text.length());
        Check.due("text «" + text + "»", x.text(), due);
        Check.due("the tape is empty", x.count(2), 0);
    }

    private static void feed() {
        TideWheels x = new TideWheels();
        Check.due("feed", x.feed(1, 'x', 0, 0, 0, 0), 1);
        Check.due("feed", x.feed(2, 0, 255, 255, 255, 255), 3);
        Check.due("feed", x.feed(5, 1, 2, 3, 4, 5), 8);
        for (int i = 0; i < 10; i++) {
            Check.due("feed", x.feed(5, 1, 2, 3, 4, 5), 13 + 5 * i);
        }
        Check.refused("no room for 3", x, () -> x.feed(3, 1, 2, 3, 4, 5), FULL);
        Check.due("room for 2", x.feed(2, 1, 2, 3, 4, 5), 60);
        Check.refused("no room for 1", x, () -> x.feed(1, 1, 2, 3, 4, 5), FULL);
        Check.refused("bad, and no room", x, () -> x.feed(6, 1, 2, 3, 4, 5), BAD);
        // Each of the five comes in its turn.
        TideWheels y = new TideWheels();
        y.feed(5, 's', 'h', 'a', 'f', 't');
        y.feed(4, ' ', '1', '2', '3', '4');
        Check.due("text()", y.text(), 1);
        Check.due("the shaft", y.count(5), 123);
    }

    private static TideWheels fed() {
        TideWheels x = new TideWheels();
        x.feed(3, 1, 2, 3, 0, 0);
        return x;
    }

    private static void feedRefused() {
        for (int n : new int[] {0, 6, -1, Integer.MIN_VALUE, Integer.MAX_VALUE}) {
            TideWheels x = fed();
            Check.refused("feed of " + n, x, () -> x.feed(n, 0, 0, 0, 0, 0), BAD);
        }
        for (int v : new int[] {-1, 256, Integer.MIN_VALUE, Integer.MAX_VALUE}) {
            TideWheels x = fed();
            Check.refused("a", x, () -> x.feed(1, v, 0, 0, 0, 0), BAD);
            Check.refused("b", x, () -> x.feed(1, 0, v, 0, 0, 0), BAD);
            Check.refused("c", x, () -> x.feed(1, 0, 0, v, 0, 0), BAD);
            Check.refused("d", x, () -> x.feed(1, 0, 0, 0, v, 0), BAD);
            Check.refused("e", x, () -> x.feed(1, 0, 0, 0, 0, v), BAD);
        }
    }

    private static void clauses() {
        TideWheels x = new TideWheels();
        textIs(x, "part 5 6 789 1011", 1);
        textIs(x, "part 1 2 3 4 ; gear 1 20 30;gear 1 8 200", 3);
        textIs(x, "shaft 33;phase 0 1023;amp 0 999;phase 1 0;amp 1 0", 5);
        int[] whats = {0, 1, 2, 3, 4};
        int[] first = {5, 6, 999, 1023, 0};
        int[] second = {1, 2, 0, 0, 2};
        for (int what : whats) {
            Check.due("of(0, " + what + ")", x.of(0, what), first[what]);
            Check.due("of(1, " + what + ")", x.of(1, what), second[what]);
        }
        Check.due("of(1, 10)", x.of(1, 10), 20);
        Check.due("of(1, 20)", x.of(1, 20), 30);
        Check.due("of(1, 11)", x.of(1, 11), 8);
        Check.due("of(1, 21)", x.of(1, 21), 200);
        Check.due("the shaft", x.count(5), 33);
        textIs(x, "shaft1;shaft2;shaft3;shaft4;shaft5;shaft6;shaft7;shaft8", 8);
        Check.due("the shaft, by the last one", x.count(5), 8);
        textIs(x, "amp0 1;amp0 2;amp0 3;amp0 4;amp0 5;amp0 6;amp0 7;amp0 8", 8);
        Check.due("of(0, 2)", x.of(0, 2), 8);
    }

    private static void refusedClauses() {
        TideWheels x = new TideWheels();
        textIs(x, "amp 0 1;part 0 0 0 0;amp 0 1;amp 1 1;amp 0 1000", 2);
        textIs(x, "part 6 0 0 0;part 0 10 0 0;part 0 0 1000 0;part 0 0 0 1024", 0);
        textIs(x, "gear 0 7 9;gear 0 9 201;gear 1 9 9;gear 0 9 9", 1);
        textIs(x, "gear 0 9 9;gear 0 9 9;gear 0 9 9", 2);
        textIs(x, "shaft 0;shaft 1000;phase 0 1024;phase 9 1", 0);
        textIs(x, "part0 0 0 0;part0 0 0 0;part0 0 0 0;part0 0 0 0", 4);
        textIs(x, "part0 0 0 0;part0 0 0 0;shaft 5", 2);
        Check.due("parts", x.count(0), 6);
        Check.due("pairs", x.count(3), 3);
        Check.due("the shaft", x.count(5), 5);
        Check.due("of(0, 2)", x.of(0, 2), 1);
    }

    private static void tokens() {
        TideWheels x = new TideWheels();
        textIs(x, "part0 1 2 3", 1);
        textIs(x, "\n \nshaft\n\n12\n;\nshaft0013  \n", 2);
        Check.due("the shaft", x.count(5), 13);
        textIs(x, "shaft 9999;phase 0 0000", 1);
        textIs(x, "phase0 5;amp0 6", 2);
        // Digits that stand together are one number.
        textIs(x, "amp 00", -106);
        textIs(x, "amp 0 0000", 1);
        textIs(x, "amp 0 00000", -106);
        // A word right behind a number is a token of its own.
        textIs(x, "amp 0 1amp 0 2", -107);
        textIs(x, "shaftshaft 1", -100);
    }

    private static void faults() {
        TideWheels x = new TideWheels();
        x.part(0, 0, 0, 0);
        Object[][] rows = {
            {"", 0}, {"   ", 3}, {"\n", 1}, {";", 0}, {" ;", 1}, {"7", 0}, {"shaft", 5}, {"shaft ", 6},
            {"shaft ;", 6}, {"shaft 1;", 8}, {"shaft 1; ", 9}, {"shaft 1;;shaft 1", 8}, {"shaft 1 1", 8},
            {"shaft 1 shaft 1", 8}, {"shaft x", 6}, {"shaft 1x", 7}, {"Shaft 1", 0}, {"sHaft 1", 0}, {"amp 0A", 5},
            {"shafts 1", 0}, {"shaf 1", 0}, {"shaft 12345", 6}, {"shaft 1;x", 8}, {"shaft 1; 5", 9},
            {"part 1 2 3", 10}, {"part 1 2 3;", 10}, {"part 1 2 3 4 5", 13}, {"gear 0 9", 8}, {"gear 0 9 9 9", 11},
            {"phase 0", 7}, {"phase 0 1 2", 10}, {"amp 0", 5}, {"amp 0 1 2", 8}, {"amp", 3}, {"am", 0},
            {"shaft -1", 6}, {"shaft 1,shaft 2", 7}, {"shaft\t1", 5}, {"shaft 1\r", 7}, {"\0shaft 1", 0},
            {"shaft 1\u00e9", 7}, {"shaft 99999;?", 6}, {"amp 0 12345 x", 6}, {"amp 0 ?", 6}, {"shaft 1;shaft 2 ?", 16},
            {"kind 0 1", 0}, {"tart 0 0 0 0", 0},
            {"pirt 0 0 0 0", 0}, {"pact 0 0 0 0", 0}, {"pare 0 0 0 0", 0}, {"year 0 9 9", 0}, {"imp 0 1", 0}, {"shaft 1;drop", 8}, {"shaft `", 6}, {"shaft {", 6}, {"shaft /", 6}, {"shaft :", 6},
            {"a;", 0}, {"`mp 0 1", 0}, {"am{ 0 1", 0}, {"shaft 1 ;;", 9},
        };
        for (Object[] row : rows) {
            textIs(x, (String) row[0], -100 - (Integer) row[1]);
        }
        Check.due("the shaft is as at first", x.count(5), 64);
    }

    private static void faultChangesNothing() {
        TideWheels x = new TideWheels();
        x.part(0, 0, 5, 5);
        long before = Told.of(x);
        textIs(x, "amp 0 9;shaft 9;part 0 0 0 0;gear 0 9 9;phase 0 8;", -150);
        Check.due("nothing changed", Told.of(x), before);
        feed(x, "shaft 9;shaft 9;shaft 9;shaft 9;shaft 9;shaft 9;shaft 9;shaf");
        Check.due("bytes", x.count(2), 60);
        Check.due("text of 60 bytes", x.text(), -156);
        Check.due("nothing changed", Told.of(x), before);
        textIs(x, "shaft 9", 1);
        Check.due("the shaft", x.count(5), 9);
    }
}
