/** The boundaries of promises 1 to 12, and of the terms that they need. */
final class PartsEdges extends Edge {
    private PartsEdges() { }

    static void all() {
        terms();
        newObject();
        part();
        drop();
        gear();
        ungear();
        shaft();
        set();
        kind();
        of();
        taken();
        jam();
        speed();
    }

    private static void terms() {
        edge("0: NONE is -1, BAD -2, STATE -3, FULL -4", x -> {
            due(TideWheels.NONE, -1);
            due(TideWheels.BAD, -2);
            due(TideWheels.STATE, -3);
            due(TideWheels.FULL, -4);
        });
        edge("0: NO is the least long", x -> due(TideWheels.NO, Long.MIN_VALUE));
        edge("0: the 512th call answers as the first", x -> {
            for (int i = 1; i < 512; i++) {
                x.shaft(i);
            }
            due(x.shaft(999), 511);
        });
        edge("0: what one object has, another one hasn't", RICH, x -> isAs("another one", new TideWheels(), NEW));
    }

    private static void newObject() {
        edge("1: a new object has no PARTS", x -> due(x.count(0), 0));
        edge("1: of a new object no PART is told", x -> {
            due(x.of(0, 0), BAD);
            due(x.taken(0, 0), BAD);
            due(x.jam(0, 0), BAD);
            due(x.place(0, 0), BAD);
            due(x.alike(0), BAD);
            due(x.speed(0, 0), NO);
            due(x.heightOf(0, 0), NO);
            due(x.off(0, 10001, 1, 0), NO);
        });
        edge("1: of no PARTS all heights are 0", x -> {
            due(x.height(), 0);
            due(x.heightAt(0), 0);
            due(x.heightAt(99999), 0);
        });
        edge("1: no PAIRS, no JAM in a new object", x -> {
            due(x.count(3), 0);
            due(x.count(4), 0);
        });
        edge("1: THE SHAFT goes 64 at first", x -> due(x.count(5), 64));
        edge("1: TICK is 0 at first", x -> due(x.count(1), 0));
        edge("1: THE TAPE is empty at first", x -> due(x.count(2), 0));
        edge("1: all SHEETS are missing at first", x -> {
            for (int sheet = 0; sheet < 4; sheet++) {
                due(x.put(sheet, 0, 1), MISSING);
                due(x.item(sheet, 0), NO);
            }
        });
        edge("1: there is no IMAGE at first", x -> due(x.back(), STATE));
    }

    private static void part() {
        edge("2: PARTS are numbered from 0 as they come, 6 at most", x -> {
            for (int i = 0; i < 6; i++) {
                due(x.part(0, 0, 0, 0), i);
            }
            due(x.count(0), 6);
        });
        refuses("2: a seventh PART is FULL", CROWDED, FULL, x -> x.part(0, 0, 0, 0), x -> x.part(5, 9, 999, 1023));
        refuses("2: a number that is none such is BAD, ahead of FULL", CROWDED, BAD, x -> x.part(6, 0, 0, 0),
            x -> x.part(0, 10, 0, 0), x -> x.part(0, 0, 1000, 0), x -> x.part(0, 0, 0, 1024));
        edge("2: behind a drop from six there is room for one, and no more", x -> {
            for (int i = 0; i < 6; i++) {
                x.part(0, 0, 0, i);
            }
            x.drop();
            due(x.part(1, 2, 3, 4), 5);
            due(x.part(0, 0, 0, 0), FULL);
            due(x.of(5, 3), 4);
        });
        edge("2: KINDS 0 to 5 come", x -> {
            for (int kind = 0; kind <= 5; kind++) {
                due(x.part(kind, 0, 0, 0), kind);
                due(x.of(kind, 0), kind);
            }
        });
        refuses("2: a KIND below 0 is BAD", RICH, BAD, x -> x.part(-1, 0, 0, 0), x -> x.part(LEAST, 0, 0, 0));
        refuses("2: a KIND above 5 is BAD", RICH, BAD, x -> x.part(6, 0, 0, 0), x -> x.part(MOST, 0, 0, 0));
        edge("2: FIGURES 0 and 9 come", x -> {
            due(x.part(0, 0, 1, 1), 0);
            due(x.part(0, 9, 1, 1), 1);
            due(x.of(0, 1), 0);
            due(x.of(1, 1), 9);
        });
        refuses("2: a FIGURE below 0 is BAD", RICH, BAD, x -> x.part(0, -1, 0, 0), x -> x.part(0, LEAST, 0, 0));
        refuses("2: a FIGURE above 9 is BAD", RICH, BAD, x -> x.part(0, 10, 0, 0), x -> x.part(0, MOST, 0, 0));
        edge("2: AMPS 0 and 999 come", x -> {
            due(x.part(0, 1, 0, 1), 0);
            due(x.part(0, 1, 999, 1), 1);
            due(x.of(0, 2), 0);
            due(x.of(1, 2), 999);
        });
        refuses("2: an AMP below 0 is BAD", RICH, BAD, x -> x.part(0, 0, -1, 0), x -> x.part(0, 0, LEAST, 0));
        refuses("2: an AMP above 999 is BAD", RICH, BAD, x -> x.part(0, 0, 1000, 0), x -> x.part(0, 0, MOST, 0));
        edge("2: PHASES 0 and 1023 come", x -> {
            due(x.part(0, 1, 1, 0), 0);
            due(x.part(0, 1, 1, 1023), 1);
            due(x.of(0, 3), 0);
            due(x.of(1, 3), 1023);
        });
        refuses("2: a PHASE below 0 is BAD", RICH, BAD, x -> x.part(0, 0, 0, -1), x -> x.part(0, 0, 0, LEAST));
        refuses("2: a PHASE above 1023 is BAD", RICH, BAD, x -> x.part(0, 0, 0, 1024), x -> x.part(0, 0, 0, MOST));
        edge("2: a PART has no PAIRS at first", x -> {
            x.part(0, 0, 0, 0);
            due(x.of(0, 4), 0);
            due(x.of(0, 10), NONE);
            due(x.speed(0, 0), 64);
        });
        edge("2: nor has one that comes in a dropped one's place", GEARED, x -> {
            x.drop();
            x.drop();
            x.drop();
            due(x.part(0, 0, 0, 0), 0);
            due(x.of(0, 4), 0);
            due(x.of(0, 10), NONE);
            due(x.of(0, 22), NONE);
            due(x.speed(0, 0), 21);
            due(x.speed(0, 1), 1);
            due(x.count(3), 0);
            due(x.gear(0, 9, 8), 1);
            due(x.of(0, 10), 9);
        });
    }

    private static void drop() {
        edge("3: drop answers how many there are, down to none", x -> {
            for (int i = 0; i < 6; i++) {
                x.part(0, 0, 0, i);
            }
            for (int left = 5; left >= 0; left--) {
                due(x.drop(), left);
                due(x.count(0), left);
            }
        });
        refuses("3: drop of a new object is STATE", NEW, STATE, x -> x.drop());
        refuses("3: drop is STATE when the last one is dropped", x -> {
            RICH.accept(x);
            x.drop();
            x.drop();
            x.drop();
        }, STATE, x -> x.drop());
        edge("3: the latest PART is none any more, the others stay", RICH, x -> {
            due(x.drop(), 2);
            due(x.of(2, 0), BAD);
            due(x.speed(2, 0), NO);
            due(x.of(1, 3), 45);
            due(x.of(1, 4), 2);
        });
    }

    private static void gear() {
        edge("4: gear answers how many PAIRS there are, 3 at most", x -> {
            x.part(0, 0, 0, 0);
            due(x.gear(0, 10, 11), 1);
            due(x.gear(0, 12, 13), 2);
            due(x.gear(0, 14, 15), 3);
            due(x.count(3), 3);
        });
        refuses("4: a fourth PAIR is FULL", GEARED, FULL, x -> x.gear(0, 8, 8), x -> x.gear(0, 200, 200));
        refuses("4: a number that is none such is BAD, ahead of FULL", GEARED, BAD, x -> x.gear(0, 7, 8),
            x -> x.gear(0, 8, 201));
        edge("4: a full TRAIN leaves the others' room", GEARED, x -> {
            due(x.gear(0, 8, 8), FULL);
            due(x.gear(2, 8, 8), 1);
            due(x.gear(1, 8, 8), 3);
        });
        edge("4: all six PARTS have 3 PAIRS, 18 together", x -> {
            for (int i = 0; i < 18; i++) {
                if (i % 3 == 0) {
                    x.part(0, 0, 0, 0);
                }
                due(x.gear(i / 3, 10 + i, 50), i % 3 + 1);
            }
            due(x.count(3), 18);
            due(x.of(5, 12), 27);
            due(x.of(0, 10), 10);
        });
        edge("4: TEETH 8 and 200 come", x -> {
            x.part(0, 0, 0, 0);
            due(x.gear(0, 8, 200), 1);
            due(x.gear(0, 200, 8), 2);
            due(x.of(0, 10), 8);
            due(x.of(0, 20), 200);
            due(x.of(0, 11), 200);
            due(x.of(0, 21), 8);
        });
        refuses("4: fewer TEETH than 8 are BAD", RICH, BAD, x -> x.gear(0, 7, 8), x -> x.gear(0, 8, 7),
            x -> x.gear(0, 0, 8), x -> x.gear(0, 8, 0), x -> x.gear(0, LEAST, 8), x -> x.gear(0, 8, LEAST));
        refuses("4: more TEETH than 200 are BAD", RICH, BAD, x -> x.gear(0, 201, 200), x -> x.gear(0, 200, 201),
            x -> x.gear(0, MOST, 8), x -> x.gear(0, 8, MOST));
        refuses("4: no such PART is BAD", RICH, BAD, x -> x.gear(-1, 8, 8), x -> x.gear(3, 8, 8), x -> x.gear(6, 8, 8),
            x -> x.gear(LEAST, 8, 8), x -> x.gear(MOST, 8, 8));
        refuses("4: without PARTS gear is BAD", NEW, BAD, x -> x.gear(0, 8, 8));
        edge("4: a PAIR that doesn't FIT comes, too", x -> {
            x.part(0, 0, 0, 0);
            due(x.gear(0, 200, 200), 1);
            due(x.gear(0, 8, 49), 2);
            due(x.of(0, 4), 2);
        });
    }

    private static void ungear() {
        edge("5: ungear answers how many PAIRS are left, down to none", GEARED, x -> {
            due(x.ungear(0), 2);
            due(x.ungear(0), 1);
            due(x.ungear(0), 0);
        });
        edge("5: the latest PAIR is none any more, those ahead of it stay", GEARED, x -> {
            x.ungear(0);
            due(x.of(0, 12), NONE);
            due(x.of(0, 22), NONE);
            due(x.of(0, 10), 20);
            due(x.of(0, 21), 60);
            due(x.speed(0, 0), 35);
            due(x.speed(0, 1), 4);
        });
        refuses("5: ungear of a TRAIN that never had a PAIR is STATE", RICH, STATE, x -> x.ungear(2));
        refuses("5: ungear of a TRAIN that lost its last PAIR is STATE", x -> {
            RICH.accept(x);
            x.ungear(0);
        }, STATE, x -> x.ungear(0));
        refuses("5: no such PART is BAD", RICH, BAD, x -> x.ungear(-1), x -> x.ungear(3), x -> x.ungear(6),
            x -> x.ungear(LEAST), x -> x.ungear(MOST));
        refuses("5: without PARTS ungear is BAD", NEW, BAD, x -> x.ungear(0));
        edge("5: a full TRAIN has room again behind it", GEARED, x -> {
            x.ungear(0);
            due(x.gear(0, 8, 9), 3);
            due(x.of(0, 12), 8);
            due(x.gear(0, 8, 9), FULL);
        });
    }

    private static void shaft() {
        edge("6: shaft answers what it did, 64 at first", x -> {
            due(x.shaft(65), 64);
            due(x.shaft(66), 65);
        });
        edge("6: THE SHAFT goes 1", x -> {
            x.part(0, 0, 1, 0);
            x.shaft(1);
            due(x.count(5), 1);
            due(x.speed(0, 0), 1);
        });
        edge("6: THE SHAFT goes 999", x -> {
            x.part(0, 0, 1, 0);
            x.shaft(999);
            due(x.count(5), 999);
            due(x.speed(0, 0), 999);
        });
        refuses("6: below 1 is BAD", RICH, BAD, x -> x.shaft(0), x -> x.shaft(-1), x -> x.shaft(LEAST));
        refuses("6: above 999 is BAD", RICH, BAD, x -> x.shaft(1000), x -> x.shaft(MOST));
    }

    private static void set() {
        edge("7: FIGURE (what 0) becomes 0 and 9", RICH, x -> {
            due(x.set(0, 0, 0), 7);
            due(x.set(0, 0, 9), 0);
            due(x.of(0, 1), 9);
        });
        refuses("7: a FIGURE of -1 or 10 is BAD", RICH, BAD, x -> x.set(0, 0, -1), x -> x.set(0, 0, 10),
            x -> x.set(0, 0, LEAST), x -> x.set(0, 0, MOST));
        edge("7: AMP (what 1) becomes 0 and 999", RICH, x -> {
            due(x.set(0, 1, 0), 11);
            due(x.set(0, 1, 999), 0);
            due(x.of(0, 2), 999);
        });
        refuses("7: an AMP of -1 or 1000 is BAD", RICH, BAD, x -> x.set(0, 1, -1), x -> x.set(0, 1, 1000),
            x -> x.set(0, 1, LEAST), x -> x.set(0, 1, MOST));
        edge("7: PHASE (what 2) becomes 0 and 1023", RICH, x -> {
            due(x.set(0, 2, 0), 900);
            due(x.set(0, 2, 1023), 0);
            due(x.of(0, 3), 1023);
        });
        refuses("7: a PHASE of -1 or 1024 is BAD", RICH, BAD, x -> x.set(0, 2, -1), x -> x.set(0, 2, 1024),
            x -> x.set(0, 2, LEAST), x -> x.set(0, 2, MOST));
        refuses("7: what below 0 or above 2 is BAD", RICH, BAD, x -> x.set(0, -1, 0), x -> x.set(0, 3, 0),
            x -> x.set(0, LEAST, 0), x -> x.set(0, MOST, 0));
        refuses("7: no such PART is BAD", RICH, BAD, x -> x.set(-1, 0, 0), x -> x.set(3, 1, 0), x -> x.set(6, 2, 0),
            x -> x.set(LEAST, 0, 0), x -> x.set(MOST, 0, 0));
        refuses("7: without PARTS set is BAD", NEW, BAD, x -> x.set(0, 0, 0));
    }

    private static void kind() {
        edge("8: KIND becomes each of 0 to 5: what it was", x -> {
            x.part(5, 1, 2, 3);
            int was = 5;
            for (int kind = 0; kind <= 5; kind++) {
                due(x.kind(0, kind), was);
                due(x.of(0, 0), kind);
                was = kind;
            }
            due(x.of(0, 3), 3);
        });
        refuses("8: a KIND below 0 is BAD", RICH, BAD, x -> x.kind(0, -1), x -> x.kind(0, LEAST));
        refuses("8: a KIND above 5 is BAD", RICH, BAD, x -> x.kind(0, 6), x -> x.kind(0, MOST));
        refuses("8: no such PART is BAD", RICH, BAD, x -> x.kind(-1, 0), x -> x.kind(3, 0), x -> x.kind(6, 0),
            x -> x.kind(LEAST, 0), x -> x.kind(MOST, 0));
        refuses("8: without PARTS kind is BAD", NEW, BAD, x -> x.kind(0, 0));
    }

    private static void of() {
        edge("9: of tells KIND, FIGURE, AMP, PHASE, PAIRS (what 0 to 4)", RICH, x -> {
            int[] due = {3, 7, 11, 900, 1};
            for (int what = 0; what <= 4; what++) {
                due(x.of(0, what), due[what]);
            }
        });
        edge("9: a of PAIR 0 to 2 (what 10 to 12), b of it (20 to 22)", GEARED, x -> {
            int[] due = {20, 50, 70, 40, 60, 80};
            for (int pair = 0; pair < 3; pair++) {
                due(x.of(0, 10 + pair), due[pair]);
                due(x.of(0, 20 + pair), due[3 + pair]);
            }
        });
        edge("9: NONE: no such PAIR in an empty TRAIN", RICH, x -> {
            for (int pair = 0; pair < 3; pair++) {
                due(x.of(2, 10 + pair), NONE);
                due(x.of(2, 20 + pair), NONE);
            }
        });
        edge("9: NONE: no such PAIR behind the latest", RICH, x -> {
            due(x.of(0, 10), 20);
            due(x.of(0, 11), NONE);
            due(x.of(0, 21), NONE);
            due(x.of(1, 21), 8);
            due(x.of(1, 12), NONE);
            due(x.of(1, 22), NONE);
        });
        refuses("9: what between or beyond those is BAD", RICH, BAD, x -> x.of(0, -1), x -> x.of(0, 5), x -> x.of(0, 9),
            x -> x.of(0, 13), x -> x.of(0, 19), x -> x.of(0, 23), x -> x.of(0, LEAST), x -> x.of(0, MOST));
        refuses("9: no such PART is BAD", RICH, BAD, x -> x.of(-1, 0), x -> x.of(3, 0), x -> x.of(6, 0),
            x -> x.of(LEAST, 0), x -> x.of(MOST, 0), x -> x.of(3, 10));
    }

    /** A part of a kind, of phase 1023, is taken for each kind. */
    private static void takenFor(String words, int kind, int... likeOnes) {
        edge(words, x -> {
            x.part(0, 0, 0, 5);
            x.part(kind, 0, 0, 1023);
            for (int k = 0; k <= 5; k++) {
                boolean is = false;
                for (int like : likeOnes) {
                    is = is || like == k;
                }
                due("taken for " + k, x.taken(1, k), is ? 1023 : OTHER);
            }
        });
    }

    private static void taken() {
        takenFor("10: a WHEEL is taken for a WHEEL alone, as all others are under it", 0, 0);
        takenFor("10: a TWIN is taken for itself and a WHEEL", 1, 1, 0);
        takenFor("10: a SLOT is taken for itself and a WHEEL", 2, 2, 0);
        takenFor("10: a DRIFT is taken for itself and a WHEEL", 3, 3, 0);
        takenFor("10: a HALF is taken for itself, a TWIN, a WHEEL", 4, 4, 1, 0);
        takenFor("10: a LATCH is taken for itself, a DRIFT, a WHEEL", 5, 5, 3, 0);
        edge("10: a PHASE of 0 is answered", x -> {
            x.part(4, 0, 0, 0);
            due(x.taken(0, 1), 0);
        });
        edge("10: behind kind it is taken for the new one", x -> {
            x.part(5, 0, 0, 7);
            x.kind(0, 1);
            due(x.taken(0, 3), OTHER);
            due(x.taken(0, 5), OTHER);
            due(x.taken(0, 1), 7);
        });
        refuses("10: k below 0 or above 5 is BAD", RICH, BAD, x -> x.taken(0, -1), x -> x.taken(0, 6),
            x -> x.taken(0, LEAST), x -> x.taken(0, MOST));
        refuses("10: no such PART is BAD", RICH, BAD, x -> x.taken(-1, 0), x -> x.taken(3, 0), x -> x.taken(6, 0),
            x -> x.taken(LEAST, 0), x -> x.taken(MOST, 0));
        refuses("10: -13 changes nothing", RICH, OTHER, x -> x.taken(0, 5), x -> x.taken(1, 3), x -> x.taken(2, 2));
    }

    /** What is told of the jam of a part that has these pairs. */
    private static void jamIs(String words, int pair, int why, int causes, int teeth, int... pairs) {
        edge(words, x -> {
            x.part(0, 0, 0, 0);
            for (int i = 0; i < pairs.length; i += 2) {
                x.gear(0, pairs[i], pairs[i + 1]);
            }
            due("JAM", x.jam(0, 0), pair);
            due("WHY", x.jam(0, 1), why);
            due("how many CAUSES", x.jam(0, 2), causes);
            due("TEETH", x.jam(0, 3), teeth);
            due("PARTS with a JAM", x.count(4), pair == NONE ? 0 : 1);
        });
    }

    private static void jam() {
        jamIs("11: TEETH of 300 together FIT", NONE, 0, 0, NONE, 100, 200, 200, 100, 150, 150);
        jamIs("11: TEETH of 301 together are too wide", 0, 1, 2, 200, 101, 200);
        jamIs("11: so they are the other way round", 0, 1, 2, 200, 200, 101);
        jamIs("11: TEETH that are exactly 6 times the others FIT", NONE, 0, 0, NONE, 8, 48, 48, 8, 198, 33);
        jamIs("11: a more than 6 times b is too unlike", 0, 2, 2, 49, 49, 8);
        jamIs("11: b more than 6 times a is too unlike", 0, 2, 2, 49, 8, 49);
        jamIs("11: the widest TEETH that are too unlike", 0, 2, 2, 200, 33, 200);
        jamIs("11: the widest TEETH that are not too unlike", NONE, 0, 0, NONE, 34, 200, 200, 34);
        // None can be both: TEETH of more than 300 together are 101 at least each.
        jamIs("11: the first PAIR that doesn't FIT, of two", 1, 2, 2, 50, 10, 10, 50, 8, 200, 200);
        jamIs("11: the last PAIR alone doesn't FIT", 2, 1, 2, 170, 10, 10, 20, 20, 140, 170);
        jamIs("11: of TEETH that are alike, a", 0, 1, 2, 160, 160, 160);
        jamIs("11: the greater TEETH are b", 0, 1, 2, 151, 150, 151);
        jamIs("11: the greater TEETH are a", 0, 1, 2, 151, 151, 150);
        jamIs("11: an empty TRAIN has no JAM, no CAUSES", NONE, 0, 0, NONE);
        jamIs("11: a TRAIN that all FITS has no JAM, no CAUSES", NONE, 0, 0, NONE, 8, 8, 9, 9, 10, 10);
        edge("11: the JAM goes with its PAIR", RICH, x -> {
            due(x.jam(1, 0), 1);
            x.ungear(1);
            due(x.jam(1, 0), NONE);
            due(x.jam(1, 1), 0);
            due(x.count(4), 0);
        });
        refuses("11: what below 0 or above 3 is BAD", RICH, BAD, x -> x.jam(1, -1), x -> x.jam(1, 4),
            x -> x.jam(1, LEAST), x -> x.jam(1, MOST));
        refuses("11: no such PART is BAD", RICH, BAD, x -> x.jam(-1, 0), x -> x.jam(3, 0), x -> x.jam(6, 0),
            x -> x.jam(LEAST, 0), x -> x.jam(MOST, 0));
    }

    /** The speed of a part with these pairs. */
    private static void speedIs(String words, int shaft, long above, long below, int... pairs) {
        edge(words, x -> {
            x.shaft(shaft);
            x.part(0, 0, 0, 0);
            for (int i = 0; i < pairs.length; i += 2) {
                x.gear(0, pairs[i], pairs[i + 1]);
            }
            due("above the line", x.speed(0, 0), above);
            due("below the line", x.speed(0, 1), below);
        });
    }

    private static void speed() {
        speedIs("12: without PAIRS it is THE SHAFT's, by 1", 37, 37, 1);
        speedIs("12: it is 0 by 1, if it has a JAM", 37, 0, 1, 10, 20, 200, 101);
        speedIs("12: it is told in lowest terms", 64, 32, 3, 8, 48);
        speedIs("12: in lowest terms, where one PAIR undoes another", 7, 7, 1, 8, 48, 48, 8);
        speedIs("12: the slowest", 1, 1, 216, 8, 48, 8, 48, 8, 48);
        speedIs("12: the fastest", 999, 215784, 1, 48, 8, 48, 8, 48, 8);
        speedIs("12: the longest numbers above the line", 998, 998L * 199 * 199 * 199, 101L * 101 * 101,
            199, 101, 199, 101, 199, 101);
        speedIs("12: the longest numbers below the line", 997, 997L * 101 * 101 * 101, 199L * 199 * 199,
            101, 199, 101, 199, 101, 199);
        edge("12: a JAM that goes leaves the SPEED as it was", RICH, x -> {
            due(x.speed(1, 0), 0);
            x.ungear(1);
            due(x.speed(1, 0), 63);
            due(x.speed(1, 1), 2);
        });
        refuses("12: line below 0 or above 1 is NO", RICH, NO, x -> x.speed(0, -1), x -> x.speed(0, 2),
            x -> x.speed(0, LEAST), x -> x.speed(0, MOST));
        refuses("12: no such PART is NO", RICH, NO, x -> x.speed(-1, 0), x -> x.speed(3, 0), x -> x.speed(6, 1),
            x -> x.speed(LEAST, 0), x -> x.speed(MOST, 0));
    }
}
