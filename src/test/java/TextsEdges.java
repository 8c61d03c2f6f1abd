import java.util.function.Consumer;

/** The boundaries of promises 28 and 29, and of the tape. */
final class TextsEdges extends Edge {
    private TextsEdges() { }

    static void all() {
        feed();
        feedRefused();
        tokens();
        strays();
        ends();
        sizes();
        done();
        refusedClauses();
        emptied();
    }

    /** The tape has this many bytes. */
    private static Consumer<TideWheels> fed(int bytes) {
        return x -> {
            for (int i = 0; i < bytes; i++) {
                x.feed(1, 'a' + i % 26, 0, 0, 0, 0);
            }
        };
    }

    private static void feed() {
        edge("28: n 1, the least: a alone comes", x -> {
            due(x.feed(1, ';', 'x', 'x', 'x', 'x'), 1);
            due(x.count(2), 1);
        });
        edge("28: n 5, the most: all come, in their order", x -> {
            due(x.feed(5, 's', 'h', 'a', 'f', 't'), 5);
            due(x.feed(2, ' ', '7', '7', '7', '7'), 7);
            due(x.text(), 1);
            due(x.count(5), 7);
        });
        edge("28: bytes 0 and 255 come, asked or not", x -> {
            due(x.feed(2, 0, 255, 0, 255, 0), 2);
            due(x.feed(2, 255, 0, 255, 0, 255), 4);
        });
        edge("28: 60 bytes at most: the last five have room", fed(55), x -> {
            due(x.feed(5, 1, 2, 3, 4, 5), 60);
            due(x.count(2), 60);
        });
        edge("28: the 60th byte has room", fed(59), x -> due(x.feed(1, 1, 2, 3, 4, 5), 60));
        refuses("28: a full TAPE has no room", fed(60), FULL, x -> x.feed(1, 0, 0, 0, 0, 0), x -> x.feed(5, 0, 0, 0, 0, 0));
        refuses("28: where only some have room, none come", fed(57), FULL, x -> x.feed(4, 0, 0, 0, 0, 0),
            x -> x.feed(5, 0, 0, 0, 0, 0));
        edge("28: behind FULL, fewer have room still", fed(57), x -> {
            due(x.feed(4, 1, 1, 1, 1, 1), FULL);
            due(x.count(2), 57);
            due(x.feed(3, 1, 1, 1, 1, 1), 60);
        });
        edge("28: behind a TEXT there is room for 60 again", fed(60), x -> {
            x.text();
            due(x.feed(5, 1, 1, 1, 1, 1), 5);
            for (int i = 6; i <= 60; i++) {
                due(x.feed(1, 1, 1, 1, 1, 1), i);
            }
            due(x.feed(1, 1, 1, 1, 1, 1), FULL);
        });
    }

    private static void feedRefused() {
        refuses("28: n below 1 or above 5 is BAD", RICH, BAD, x -> x.feed(0, 1, 1, 1, 1, 1), x -> x.feed(-1, 1, 1, 1, 1, 1),
            x -> x.feed(6, 1, 1, 1, 1, 1), x -> x.feed(LEAST, 1, 1, 1, 1, 1), x -> x.feed(MOST, 1, 1, 1, 1, 1));
        refuses("28: a below 0 or above 255 is BAD", RICH, BAD, x -> x.feed(1, -1, 1, 1, 1, 1),
            x -> x.feed(1, 256, 1, 1, 1, 1), x -> x.feed(1, LEAST, 1, 1, 1, 1), x -> x.feed(1, MOST, 1, 1, 1, 1));
        refuses("28: b below 0 or above 255 is BAD, asked or not", RICH, BAD, x -> x.feed(2, 1, -1, 1, 1, 1),
            x -> x.feed(2, 1, 256, 1, 1, 1), x -> x.feed(1, 1, -1, 1, 1, 1), x -> x.feed(1, 1, 256, 1, 1, 1));
        refuses("28: c below 0 or above 255 is BAD, asked or not", RICH, BAD, x -> x.feed(3, 1, 1, -1, 1, 1),
            x -> x.feed(3, 1, 1, 256, 1, 1), x -> x.feed(2, 1, 1, -1, 1, 1), x -> x.feed(2, 1, 1, 256, 1, 1));
        refuses("28: d below 0 or above 255 is BAD, asked or not", RICH, BAD, x -> x.feed(4, 1, 1, 1, -1, 1),
            x -> x.feed(4, 1, 1, 1, 256, 1), x -> x.feed(3, 1, 1, 1, -1, 1), x -> x.feed(3, 1, 1, 1, 256, 1));
        refuses("28: e below 0 or above 255 is BAD, asked or not", RICH, BAD, x -> x.feed(5, 1, 1, 1, 1, -1),
            x -> x.feed(5, 1, 1, 1, 1, 256), x -> x.feed(4, 1, 1, 1, 1, -1), x -> x.feed(4, 1, 1, 1, 1, 256));
        refuses("28: BAD is ahead of FULL", fed(60), BAD, x -> x.feed(0, 1, 1, 1, 1, 1), x -> x.feed(6, 1, 1, 1, 1, 1),
            x -> x.feed(1, 256, 1, 1, 1, 1), x -> x.feed(1, 1, 1, 1, 1, -1));
    }

    /** Each text, on an object that the recipe made, is answered so. */
    private static void texts(String words, Consumer<TideWheels> recipe, Object... textsAndAnswers) {
        edge(words, x -> {
            for (int i = 0; i < textsAndAnswers.length; i += 2) {
                String text = (String) textsAndAnswers[i];
                TideWheels y = new TideWheels();
                recipe.accept(y);
                TextsTest.feed(y, text);
                due("bytes of «" + text + "»", y.count(2), text.length());
                due("text «" + text + "»", y.text(), (Integer) textsAndAnswers[i + 1]);
                due("the tape behind «" + text + "»", y.count(2), 0);
            }
        });
    }

    /** Each text has a fault there, and changes nothing. */
    private static void faults(String words, Object... textsAndPlaces) {
        edge(words, x -> {
            for (int i = 0; i < textsAndPlaces.length; i += 2) {
                String text = (String) textsAndPlaces[i];
                TideWheels y = new TideWheels();
                PARTED.accept(y);
                TextsTest.feed(y, text);
                due("text «" + text + "»", y.text(), -100 - (Integer) textsAndPlaces[i + 1]);
                isAs("text «" + text + "»", y, PARTED);
            }
        });
    }

    /** As RICH, with the tape empty. */
    private static final Consumer<TideWheels> PARTED = x -> {
        RICH.accept(x);
        x.text();
    };

    private static void tokens() {
        texts("29: blanks (32, 10) may stand ahead, between and behind", NEW, "shaft 1", 1, " shaft 1", 1, "\nshaft\n1\n", 1,
            "  shaft \n 1  \n ", 1, "shaft 1 ; shaft 2\n;\nshaft 3", 3);
        texts("29: and needn't where a TOKEN of another sort begins", NEW, "shaft1", 1, "shaft1;shaft2", 2,
            "part0 0 0 0;gear0 8 8", 2);
        faults("29: WORDS are as long as can be", "shaftshaft 1", 0, "shafts 1", 0, "shaf 1", 0, "s haft 1", 0,
            "shaft 1;partgear 0", 8, "a 1", 0);
        faults("29: NUMBERS are as long as can be", "gear 0 88", 9, "phase 01", 8, "part 0000", 9);
        faults("29: a WORD that is none of these", "set 0 0 0", 0, "shaft 1;kind 0 1", 8, "drop", 0, "turn 1", 0);
        edge("29: a WORD with one letter unlike is none of these", x -> {
            String[] words = {"part", "gear", "shaft", "phase", "amp"};
            for (String word : words) {
                for (int i = 0; i < word.length(); i++) {
                    TideWheels y = new TideWheels();
                    TextsTest.feed(y, word.substring(0, i) + "z" + word.substring(i + 1) + " 1 2 3 4");
                    due(word + ", letter " + i, y.text(), -100);
                }
            }
        });
        faults("29: a letter that is no a .. z makes no WORD", "Shaft 1", 0, "SHAFT 1", 0, "shafT 1", 0, "shaft A", 6);
        texts("29: a NUMBER of 4 digits is not too long", NEW, "shaft 0999", 1, "shaft 0001", 1, "shaft 9999", 0,
            "part 0000 0000 0000 0000", 1);
        faults("29: a NUMBER of more than 4 digits is too long, at its first byte", "shaft 00999", 6, "shaft 10000", 6,
            "part 0 0 0 00000", 11, "phase 0 00001", 8, "gear 0 8 123456", 9);
        edge("29: NUMBERS are read by tens", x -> {
            TextsTest.feed(x, "part 5 9 999 1023");
            due(x.text(), 1);
            due(x.of(0, 0), 5);
            due(x.of(0, 1), 9);
            due(x.of(0, 2), 999);
            due(x.of(0, 3), 1023);
        });
        texts("29: a, z, 0 and 9 are letters and digits", NEW, "shaft 90", 1, "shaft 09", 1);
        faults("29: a WORD of a and z is one TOKEN", "az 1", 0, "shaft 1 az", 8, "shaft 1;za 1", 8);
    }

    private static void strays() {
        for (int v : new int[] {0, 9, 11, 13, 31, 33, 47, 58, 60, 64, 65, 90, 91, 96, 123, 127, 128, 255}) {
            String stray = "" + (char) v;
            faults("29: the byte " + v + " begins no TOKEN", stray, 0, stray + "shaft 1", 0, "shaft" + stray + "1", 5,
                "shaft 1" + stray, 7, "shaft 1 " + stray, 8, "shaft 1;" + stray + "shaft 2", 8, "sha" + stray + "ft 1", 0);
        }
        faults("29: the first TOKEN that can't stand there, of two", "shaft 1 ? shaft 99999", 8, "shaft ; ?", 6,
            "wheel ?", 0, "shaft 99999 ?", 6);
    }

    private static void ends() {
        texts("29: an empty TAPE is no TEXT: its size is 0", NEW, "", -100);
        faults("29: nor are blanks: the text's size", " ", 1, "\n", 1, " \n ", 3);
        faults("29: it ends behind a WORD", "shaft", 5, "shaft ", 6, "shaft \n", 7, "shaft 1;gear", 12);
        faults("29: it ends ahead of a clause's last NUMBER", "part 0 0 0", 10, "gear 0 8", 8, "phase 0", 7, "amp 0 ", 6);
        faults("29: it ends behind a ;", "shaft 1;", 8, "shaft 1; ", 9, "shaft 1 ;\n\n", 11);
        faults("29: a ; where a CLAUSE must stand", ";", 0, " ;", 1, ";shaft 1", 0, "shaft 1;;shaft 2", 8, "shaft 1; ;", 9);
        faults("29: a ; where a NUMBER must stand", "shaft;", 5, "part 0 0 0;", 10, "gear 0 8 ;", 9, "amp 0;amp 0 0", 5);
        faults("29: a NUMBER where a WORD must stand", "1", 0, " 1 shaft", 1, "shaft 1;2", 8, "00000", 0);
        faults("29: a WORD where a NUMBER must stand", "shaft shaft", 6, "shaft x", 6, "gear 0 8 amp", 9);
        faults("29: one NUMBER too many", "shaft 1 2", 8, "part 0 0 0 0 0", 13, "gear 0 8 8 8", 11, "phase 0 0 0", 10,
            "amp 0 0 0", 8);
        faults("29: a WORD where a ; must stand", "shaft 1 shaft 2", 8, "shaft 1shaft 2", 7, "amp 0 0 part", 8);
    }

    private static void sizes() {
        String six = "shaft 1;shaft 2;shaft 3;shaft 4;shaft 5;shaft 6;";
        texts("29: a TEXT of 60 bytes", NEW, six + "shaft   0009", 7);
        texts("29: the FAULT of one of 60 that ends too early is at 60", NEW, six + "shaft       ", -160);
        texts("29: a FAULT at its last byte is at 59", NEW, six + "shaft   7  ;", -160, six + "shaft   7  ?", -159);
        texts("29: 60 blanks", NEW, " ".repeat(60), -160);
        texts("29: 60 letters, 60 digits, 60 signs", NEW, "a".repeat(60), -100, "1".repeat(60), -100, ";".repeat(60), -100,
            "shaft" + "1".repeat(55), -105);
        texts("29: the most CLAUSES that 60 bytes hold", PARTED, "amp0 1;amp0 2;amp0 3;amp0 4;amp0 5;amp0 6;amp0 7;shaft8", 8);
        edge("29: of those each is done", PARTED, x -> {
            TextsTest.feed(x, "amp0 1;amp1 2;amp2 3;phase0 4;phase1 5;phase2 6;shaft7");
            due(x.text(), 7);
            for (int part = 0; part < 3; part++) {
                due(x.of(part, 2), 1 + part);
                due(x.of(part, 3), 4 + part);
            }
            due(x.count(5), 7);
        });
    }

    private static void done() {
        texts("29: one CLAUSE of each WORD", PARTED, "part 0 0 0 0", 1, "gear 2 8 8", 1, "shaft 1", 1, "phase 0 0", 1,
            "amp 0 0", 1);
        edge("29: CLAUSES are done one behind the other", x -> {
            TextsTest.feed(x, "part 0 0 1 2;gear 0 9 8;phase 0 1023;amp 0 999;shaft 5");
            due(x.text(), 5);
            due(x.of(0, 2), 999);
            due(x.of(0, 3), 1023);
            due(x.of(0, 10), 9);
            due(x.of(0, 20), 8);
            due(x.speed(0, 0), 45);
            due(x.speed(0, 1), 8);
        });
        edge("29: a later CLAUSE may need what an earlier one did", x -> {
            TextsTest.feed(x, "gear 0 9 8;amp 0 5;part 0 0 1 2;gear 0 8 9");
            due(x.text(), 2);
            due(x.of(0, 4), 1);
            due(x.of(0, 10), 8);
            due(x.of(0, 2), 1);
        });
    }

    private static void refusedClauses() {
        texts("29: CLAUSES that would be refused aren't done: none", NEW, "shaft 0", 0, "shaft 1000", 0, "part 6 0 0 0", 0,
            "part 0 10 0 0", 0, "part 0 0 1000 0", 0, "part 0 0 0 1024", 0, "gear 0 8 8", 0, "phase 0 0", 0, "amp 0 0", 0);
        texts("29: nor these, of PARTS that are there", PARTED, "gear 0 7 8", 0, "gear 0 8 201", 0, "gear 3 8 8", 0,
            "phase 0 1024", 0, "phase 3 0", 0, "amp 0 1000", 0, "amp 3 0", 0, "amp 9999 0", 0);
        edge("29: those beside them are done, and counted alone", PARTED, x -> {
            TextsTest.feed(x, "shaft 0;shaft 5;amp 9 9;amp 0 4;phase 0 1024");
            due(x.text(), 2);
            due(x.count(5), 5);
            due(x.of(0, 2), 4);
            due(x.of(0, 3), 900);
        });
        edge("29: a seventh PART isn't done", CROWDED, x -> {
            x.text();
            TextsTest.feed(x, "part 0 0 0 0;shaft 3");
            due(x.text(), 1);
            due(x.count(0), 6);
            due(x.count(5), 3);
        });
        edge("29: a fourth PAIR isn't done", PARTED, x -> {
            TextsTest.feed(x, "gear 0 8 9;gear 0 9 8;gear 0 8 8;gear 1 9 9");
            due(x.text(), 3);
            due(x.of(0, 4), 3);
            due(x.of(1, 4), 3);
        });
        edge("29: a TEXT whose CLAUSES are all refused changes nothing else", PARTED, x -> {
            TextsTest.feed(x, "shaft 0;part 9 9 9 9;gear 0 1 1;amp 7 7");
            due(x.text(), 0);
            isAs("text", x, PARTED);
        });
    }

    private static void emptied() {
        edge("29: THE TAPE is empty behind a TEXT", x -> {
            TextsTest.feed(x, "shaft 5");
            due(x.text(), 1);
            due(x.count(2), 0);
            due(x.text(), -100);
            due(x.feed(1, 'x', 0, 0, 0, 0), 1);
        });
        edge("29: THE TAPE is empty behind a FAULT, too", x -> {
            TextsTest.feed(x, "shaft 5;");
            due(x.text(), -108);
            due(x.count(2), 0);
            due(x.count(5), 64);
            due(x.text(), -100);
            TextsTest.feed(x, "shaft 6");
            due(x.text(), 1);
            due(x.count(5), 6);
        });
        edge("29: THE TAPE is empty behind refused CLAUSES", x -> {
            TextsTest.feed(x, "shaft 0");
            due(x.text(), 0);
            due(x.count(2), 0);
            due(x.text(), -100);
        });
        edge("29: a FAULT at the end undoes all: no CLAUSE ahead of it is done", PARTED, x -> {
            TextsTest.feed(x, "shaft 9;amp 0 5;part 0 0 0 0;gear");
            due(x.text(), -133);
            isAs("text", x, PARTED);
        });
    }
}
