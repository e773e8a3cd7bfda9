/** The edges of promises 10 to 14: the tape, pairs told by it, their kinds, figures and teeth. */
final class PairsEdges {
    private static final int NONE = -1, BAD = -2, FULL = -4;
    private static final int LEAST = Integer.MIN_VALUE, MOST = Integer.MAX_VALUE;
    private static final int[] NO_PAIR_OF_FOUR = {-1, 4, 9, 10, LEAST, MOST};

    private PairsEdges() {
    }

    static void tell() {
        promise10();
        promise11();
        promise12();
        promise13();
        promise14();
        termsOfPairs();
        termsOfPlay();
        termsOfTape();
        termsOfClauses();
        termsOfTrainsTold();
        termsOfFaults();
    }

    private static void promise10() {
        Edges.promise(10);
        Edges.edge("A byte (1 .. 127) comes behind THE TAPE's: how many it has.", () -> {
            OrreryTrains x = new OrreryTrains();
            Due.is("the least", x.feed(1), 1);
            Due.is("the greatest", x.feed(127), 2);
            Due.is("count(4)", x.count(4), 2);
            Due.is("pairs() of these", x.pairs(), -100);
            OrreryTrains y = Stage.small();
            Due.is("first letter", y.feed('b'), 1);
            Due.is("second letter", y.feed('a'), 2);
            Due.is("train(1)", y.train(1), 2);
            Due.is("the first one", y.of(1, 10), 1);
            Due.is("the one behind it", y.of(1, 11), 0);
        });
        Edges.edge("BAD", () -> {
            for (int letter : new int[] {0, 128, -1, -128, 256, 256 + 'a', LEAST, MOST}) {
                Twins.unchanged(Stage::bare, BAD, "feed", letter);
                Twins.unchanged(Stage::rich, BAD, "feed", letter);
                Twins.unchanged(Stage::full, BAD, "feed", letter);
            }
        });
        Edges.edge("FULL.", () -> {
            for (int letter : new int[] {1, 'a', ';', 127}) {
                Twins.unchanged(Stage::full, FULL, "feed", letter);
            }
            OrreryTrains x = new OrreryTrains();
            for (int i = 1; i <= 60; i++) {
                Due.is("feed " + i, x.feed('c'), i);
            }
            Due.is("feed 61", x.feed('c'), FULL);
            Due.is("pairs()", x.pairs(), -101);
            Due.is("feed again", x.feed('c'), 1);
        });
    }

    private static void promise11() {
        Edges.promise(11);
        Edges.edge("THE TAPE tells PAIRS: how many there are then.", () -> {
            OrreryTrains x = new OrreryTrains();
            Due.is("one", Stage.pairs(x, "c0 10/99"), 1);
            Due.is("six more", Stage.pairs(x, Stage.SIX), 7);
            Due.is("three more", Stage.pairs(x, "k9 99/10;s1 11/12;p3 13/14"), 10);
            Due.is("count(1)", x.count(1), 10);
            pairIs(x, 0, 0, 0, 10, 99);
            pairIs(x, 1, 0, 0, 20, 30);
            pairIs(x, 6, 5, 4, 25, 35);
            pairIs(x, 9, 2, 3, 13, 14);
        });
        Edges.edge("-100 less the FAULT;", () -> {
            Twins.unread(Stage::rich, "", -100, "pairs");
            Twins.unread(Stage::rich, "x", -100, "pairs");
            Twins.unread(Stage::rich, "c5 20/3x", -107, "pairs");
            Twins.unread(Stage::rich, "c5 20/30;c", -110, "pairs");
            Twins.unread(Stage::bare, Stage.SIX + ";c0 20/", -160, "pairs");
            Twins.unread(Stage::bare, Stage.SIX + ";c0 20-", -159, "pairs");
        });
        Edges.edge("FULL: there would be more than ten (none comes).", () -> {
            Twins.unread(Stage::full, "c0 10/99", FULL, "pairs");
            Twins.unread(Stage::full, Stage.SIX, FULL, "pairs");
            OrreryTrains x = new OrreryTrains();
            Due.is("six", Stage.pairs(x, Stage.SIX), 6);
            Due.is("twelve", Stage.pairs(x, Stage.SIX), FULL);
            Due.is("eleven", Stage.pairs(x, Stage.FOUR + ";c0 10/10"), FULL);
            Due.is("count(1)", x.count(1), 6);
            Due.is("ten", Stage.pairs(x, Stage.FOUR), 10);
            Due.is("count(1)", x.count(1), 10);
        });
    }

    private static void pairIs(OrreryTrains x, int pair, int... due) {
        for (int what = 0; what < due.length; what++) {
            Due.is("pair(" + pair + ", " + what + ")", x.pair(pair, what), due[what]);
        }
    }

    private static void promise12() {
        Edges.promise(12);
        Edges.edge("KIND, FIGURE of a PAIR become others: 10 times the KIND and the FIGURE that were.", () -> {
            OrreryTrains x = Stage.rich();
            Due.is("becomes(2, 0, 0)", x.becomes(2, 0, 0), 59);
            Due.is("becomes(2, 5, 9)", x.becomes(2, 5, 9), 0);
            Due.is("becomes(2, 5, 9) again", x.becomes(2, 5, 9), 59);
            Due.is("becomes(3, 4, 1)", x.becomes(3, 4, 1), 28);
            pairIs(x, 3, 4, 1, 17, 51);
            pairIs(x, 2, 5, 9, 33, 11);
        });
        Edges.edge("NONE: pair", () -> {
            for (int pair : NO_PAIR_OF_FOUR) {
                Twins.unchanged(Stage::rich, NONE, "becomes", pair, 0, 0);
                Twins.unchanged(Stage::rich, NONE, "becomes", pair, 0, 10);
            }
            Twins.unchanged(Stage::full, NONE, "becomes", 10, 0, 0);
        });
        Edges.edge("kind", () -> {
            for (int kind : new int[] {-1, 6, 9, LEAST, MOST}) {
                Twins.unchanged(Stage::rich, NONE, "becomes", 0, kind, 0);
                Twins.unchanged(Stage::rich, NONE, "becomes", 0, kind, 10);
            }
        });
        Edges.edge("BAD.", () -> {
            for (int figure : new int[] {-1, 10, 99, LEAST, MOST}) {
                Twins.unchanged(Stage::rich, BAD, "becomes", 0, 5, figure);
                Twins.unchanged(Stage::full, BAD, "becomes", 9, 0, figure);
            }
        });
    }

    private static void promise13() {
        Edges.promise(13);
        Edges.edge("Teeth of the DRIVER (what 0), of the DRIVEN wheel (1) of a PAIR become v: what they were.", () -> {
            OrreryTrains x = Stage.rich();
            Due.is("the least driver", x.teeth(0, 0, 10), 20);
            Due.is("the greatest driven", x.teeth(0, 1, 99), 30);
            Due.is("the greatest driver", x.teeth(0, 0, 99), 10);
            Due.is("the least driven", x.teeth(0, 1, 10), 99);
            pairIs(x, 0, 0, 5, 99, 10);
            pairIs(x, 1, 3, 4, 24, 12);
        });
        Edges.edge("NONE: pair", () -> {
            for (int pair : NO_PAIR_OF_FOUR) {
                Twins.unchanged(Stage::rich, NONE, "teeth", pair, 0, 50);
                Twins.unchanged(Stage::rich, NONE, "teeth", pair, 1, 9);
            }
            Twins.unchanged(Stage::full, NONE, "teeth", 10, 0, 50);
        });
        Edges.edge("what", () -> {
            for (int what : new int[] {-1, 2, 3, LEAST, MOST}) {
                Twins.unchanged(Stage::rich, NONE, "teeth", 0, what, 50);
                Twins.unchanged(Stage::rich, NONE, "teeth", 0, what, 100);
            }
        });
        Edges.edge("BAD.", () -> {
            for (int v : new int[] {9, 100, 0, -1, -10, LEAST, MOST}) {
                Twins.unchanged(Stage::rich, BAD, "teeth", 0, 0, v);
                Twins.unchanged(Stage::rich, BAD, "teeth", 3, 1, v);
            }
        });
    }

    private static void promise14() {
        Edges.promise(14);
        Edges.edge("Of a PAIR what 0 KIND, 1 FIGURE, 2 DRIVER, 3 DRIVEN, 4 PLAY, 5 whether it turns the way ROUND (1, 0),", () -> {
            int[][] due = {{0, 5, 20, 30, 5, 1}, {3, 4, 24, 12, 14, 1}, {5, 9, 33, 11, 9, 0}, {2, 8, 17, 51, 4, 1}};
            for (int pair = 0; pair < 4; pair++) {
                for (int what = 0; what < 6; what++) {
                    Twins.unchanged(Stage::rich, due[pair][what], "pair", pair, what);
                }
            }
        });
        Edges.edge("6 in how many TRAINS it is.", () -> {
            int[] due = {3, 3, 2, 1, 1, 1, 1, 1, 1, 1};
            for (int pair = 0; pair < 10; pair++) {
                Twins.unchanged(Stage::full, due[pair], "pair", pair, 6);
            }
            OrreryTrains x = Stage.small();
            Stage.pairs(x, "c0 10/99");
            Due.is("in none", x.pair(2, 6), 0);
            for (int body = 2; body < 6; body++) {
                x.body(1, 1);
            }
            for (int body = 0; body < 6; body++) {
                Stage.train(x, body, "bca".substring(body % 2));
            }
            Due.is("in all six, first or behind", x.pair(2, 6), 6);
            Due.is("in three", x.pair(1, 6), 3);
            x.drop(0);
            Due.is("in five", x.pair(2, 6), 5);
            Stage.train(x, 1, "ab");
            Due.is("in four", x.pair(2, 6), 4);
        });
        Edges.edge("NONE.", () -> {
            for (int pair : NO_PAIR_OF_FOUR) {
                Twins.unchanged(Stage::rich, NONE, "pair", pair, 0);
            }
            for (int what : new int[] {-1, 7, LEAST, MOST}) {
                Twins.unchanged(Stage::rich, NONE, "pair", 0, what);
            }
            Twins.unchanged(Stage::full, NONE, "pair", 10, 0);
        });
    }

    private static void termsOfPairs() {
        Edges.terms();
        Edges.edge("PAIRS 0 .. 9 of wheels, as they come (letters a .. j by their numbers),", () -> {
            OrreryTrains x = new OrreryTrains();
            x.body(1, 1);
            for (int pair = 0; pair < 10; pair++) {
                Due.is("pair that is to come", x.pair(pair, 0), NONE);
                Due.is("pairs()", Stage.pairs(x, "c" + pair + " 10/99"), pair + 1);
                Due.is("FIGURE", x.pair(pair, 1), pair);
                Due.is("train by its letter", Stage.train(x, 0, "" + "abcdefghij".charAt(pair)), 1);
                Due.is("its number", x.of(0, 10), pair);
            }
            Due.is("pair(10, 0)", x.pair(10, 0), NONE);
            Due.is("train of k", Stage.train(x, 0, "k"), -100);
        });
        Edges.edge("have a KIND, a FIGURE (0 .. 9),", () -> {
            OrreryTrains x = Stage.byOne(1, 1, "c0 10/99");
            for (int figure = 0; figure <= 9; figure++) {
                for (int kind = 0; kind < 6; kind++) {
                    x.becomes(0, kind, figure);
                    pairIs(x, 0, kind, figure);
                }
            }
            Due.is("FIGURE 10", x.becomes(0, 0, 10), BAD);
            Due.is("FIGURE -1", x.becomes(0, 0, -1), BAD);
            pairIs(x, 0, 5, 9, 10, 99);
        });
        Edges.edge("teeth of the DRIVER and of the DRIVEN wheel (10 .. 99 each, whatever BOUNDS are).", () -> {
            OrreryTrains x = new OrreryTrains();
            x.bounds(40, 50);
            Due.is("told beyond BOUNDS", Stage.pairs(x, "c0 10/99;c0 99/10"), 2);
            Due.is("becomes the least", x.teeth(1, 0, 10), 99);
            Due.is("becomes the greatest", x.teeth(1, 1, 99), 10);
            Due.is("below", x.teeth(1, 0, 9), BAD);
            Due.is("above", x.teeth(1, 1, 100), BAD);
            x.bounds(99, 99);
            pairIs(x, 0, 0, 0, 10, 99);
            pairIs(x, 1, 0, 0, 10, 99);
        });
    }

    private static void playIs(int kind, int... due) {
        OrreryTrains x = Stage.byOne(1, 1, "c0 10/99");
        for (int figure = 0; figure < 10; figure++) {
            x.becomes(0, kind, figure);
            Due.is("PLAY by KIND " + kind + ", FIGURE " + figure, x.pair(0, 4), due[figure]);
        }
    }

    private static void termsOfPlay() {
        Edges.terms();
        Edges.edge("PLAY (hundredths of a tooth), by KIND: 0 cut: FIGURE;", () -> playIs(0, 0, 1, 2, 3, 4, 5, 6, 7, 8, 9));
        Edges.edge("1 filed, under cut: 3 more than a cut one's;", () -> playIs(1, 3, 4, 5, 6, 7, 8, 9, 10, 11, 12));
        Edges.edge("2 pinned, under cut: half of a cut one's (cut);", () -> playIs(2, 0, 0, 1, 1, 2, 2, 3, 3, 4, 4));
        Edges.edge("3 worn, under filed: twice a filed one's;", () -> playIs(3, 6, 8, 10, 12, 14, 16, 18, 20, 22, 24));
        Edges.edge("4 sprung, under pinned: 0, if FIGURE is even, else as a pinned one's;",
            () -> playIs(4, 0, 0, 0, 1, 0, 2, 0, 3, 0, 4));
        Edges.edge("5 crowned, under cut: as a cut one's.", () -> playIs(5, 0, 1, 2, 3, 4, 5, 6, 7, 8, 9));
        Edges.edge("A PAIR turns the way ROUND, unless it is a crowned one.", () -> {
            OrreryTrains x = Stage.byOne(1, 1, "c0 10/99");
            for (int kind = 0; kind < 6; kind++) {
                x.becomes(0, kind, 0);
                Due.is("KIND " + kind, x.pair(0, 5), kind == 5 ? 0 : 1);
            }
        });
    }

    private static void termsOfTape() {
        Edges.terms();
        Edges.edge("THE TAPE (60 bytes at most) tells PAIRS: CLAUSES, one or more, with ; between:", () -> {
            OrreryTrains x = new OrreryTrains();
            Due.is("none", Stage.pairs(x, ""), -100);
            Due.is("one", Stage.pairs(x, "c0 10/99"), 1);
            Due.is("two", Stage.pairs(x, "c0 10/99;k1 11/98"), 3);
            Due.is("as many as there is room for", Stage.pairs(x, Stage.SIX), 9);
            Due.is("two with , between", Stage.pairs(x, "c0 10/99,k1 11/98"), -108);
            Due.is("two with nothing between", Stage.pairs(x, "c0 10/99k1 11/98"), -108);
            Due.is("two with two ; between", Stage.pairs(x, "c0 10/99;;k1 11/98"), -109);
            Due.is("a ; ahead", Stage.pairs(x, ";c0 10/99"), -100);
            Due.is("a ; behind", Stage.pairs(x, "c0 10/99;"), -109);
            Due.is("a ; alone", Stage.pairs(x, ";"), -100);
            Due.is("60 bytes", Stage.pairs(x, Stage.SIX + ";c0 20/"), -160);
            Due.is("count(1)", x.count(1), 9);
            Due.is("one more", Stage.pairs(x, "c0 10/99"), 10);
        });
    }

    private static void termsOfClauses() {
        Edges.terms();
        Edges.edge("a letter of a KIND (c f p w s k for cut filed pinned worn sprung crowned),", () -> {
            OrreryTrains x = new OrreryTrains();
            Due.is("all kinds", Stage.pairs(x, "c9 10/99;f9 10/99;p9 10/99;w9 10/99;s9 10/99;k9 10/99"), 6);
            for (int pair = 0; pair < 6; pair++) {
                Due.is("KIND", x.pair(pair, 0), pair);
            }
            for (char letter = 1; letter < 128; letter++) {
                if ("cfpwsk".indexOf(letter) < 0) {
                    OrreryTrains y = new OrreryTrains();
                    Due.is("letter " + (int) letter, Stage.pairs(y, letter + "9 10/99"), -100);
                }
            }
        });
        Edges.edge("FIGURE,", () -> figuresAt(1, '0'));
        Edges.edge("a blank,", () -> onlyAt(2, ' '));
        Edges.edge("DRIVER,", () -> wheelIs(2, "c0 ", "/50"));
        Edges.edge("/,", () -> onlyAt(5, '/'));
        Edges.edge("DRIVEN", () -> wheelIs(3, "c0 50/", ""));
        Edges.edge("(each two figures, the first one 1 .. 9).", () -> {
            figuresAt(3, '1');
            figuresAt(4, '0');
            figuresAt(6, '1');
            figuresAt(7, '0');
            Due.is("one figure", Stage.pairs(new OrreryTrains(), "c0 9/50"), -104);
            Due.is("three figures", Stage.pairs(new OrreryTrains(), "c0 100/50"), -105);
            Due.is("one figure behind", Stage.pairs(new OrreryTrains(), "c0 50/9"), -107);
            Due.is("three figures behind", Stage.pairs(new OrreryTrains(), "c0 50/100"), -108);
            Due.is("a sign", Stage.pairs(new OrreryTrains(), "c0 -50/10"), -103);
        });
    }

    /** Every byte but the due ones is a FAULT there. */
    private static void figuresAt(int place, char least) {
        for (char letter = 1; letter < 128; letter++) {
            String text = "c5 20/30".substring(0, place) + letter + "c5 20/30".substring(place + 1);
            long due = letter >= least && letter <= '9' ? 1 : -100 - place;
            Due.is("byte " + (int) letter + " at " + place, Stage.pairs(new OrreryTrains(), text), due);
        }
    }

    private static void onlyAt(int place, char only) {
        for (char letter = 1; letter < 128; letter++) {
            String text = "c5 20/30".substring(0, place) + letter + "c5 20/30".substring(place + 1);
            Due.is("byte " + (int) letter + " at " + place, Stage.pairs(new OrreryTrains(), text), letter == only ? 1 : -100 - place);
        }
    }

    private static void wheelIs(int what, String ahead, String behind) {
        for (int v : new int[] {10, 11, 19, 20, 35, 90, 98, 99}) {
            OrreryTrains x = new OrreryTrains();
            Due.is("pairs() with " + v, Stage.pairs(x, ahead + v + behind), 1);
            Due.is("teeth", x.pair(0, what), v);
        }
        Due.is("pairs() with 09", Stage.pairs(new OrreryTrains(), ahead + "09" + behind), -100 - ahead.length());
        Due.is("pairs() with 00", Stage.pairs(new OrreryTrains(), ahead + "00" + behind), -100 - ahead.length());
    }

    private static void termsOfTrainsTold() {
        Edges.terms();
        Edges.edge("It tells a TRAIN: one to three letters of PAIRS that there are, none twice.", () -> {
            OrreryTrains x = Stage.rich();
            x.train(3);
            Due.is("none", Stage.train(x, 3, ""), -100);
            Due.is("one", Stage.train(x, 3, "d"), 1);
            Due.is("two", Stage.train(x, 3, "da"), 2);
            Due.is("three", Stage.train(x, 3, "dab"), 3);
            Due.is("four", Stage.train(x, 3, "dabc"), -103);
            Due.is("one that isn't there", Stage.train(x, 3, "abe"), -102);
            Due.is("one twice", Stage.train(x, 3, "aba"), -102);
            Due.is("one told in another train, too", Stage.train(x, 3, "abd"), 3);
            for (char letter = 1; letter < 128; letter++) {
                long due = letter >= 'a' && letter <= 'd' ? 1 : -100;
                Due.is("letter " + (int) letter, Stage.train(x, 3, "" + letter), due);
            }
        });
    }

    private static void termsOfFaults() {
        Edges.terms();
        Edges.edge("FAULT: the place (from 0) of the first byte with which no such text goes on", () -> {
            String whole = "c5 20/30;f4 24/12";
            for (int place = 0; place < whole.length(); place++) {
                String text = whole.substring(0, place) + "#" + whole.substring(place + 1);
                Twins.unread(Stage::small, text, -100 - place, "pairs");
                Twins.unread(Stage::small, text.substring(0, place + 1), -100 - place, "pairs");
            }
            Twins.unread(Stage::small, whole + "#", -117, "pairs");
            Twins.unread(Stage::small, "##", -100, "train", 0);
        });
        Edges.edge("(a letter of no PAIR,", () -> {
            Twins.unread(Stage::small, "c", -100, "train", 0);
            Twins.unread(Stage::small, "bc", -101, "train", 0);
            Twins.unread(Stage::rich, "abe", -102, "train", 0);
            Twins.unread(Stage::full, "abk", -102, "train", 0);
        });
        Edges.edge("one told already,", () -> {
            Twins.unread(Stage::rich, "aa", -101, "train", 0);
            Twins.unread(Stage::rich, "aba", -102, "train", 0);
            Twins.unread(Stage::rich, "abb", -102, "train", 3);
        });
        Edges.edge("a fourth one, too);", () -> {
            Twins.unread(Stage::rich, "abcd", -103, "train", 0);
            Twins.unread(Stage::rich, "abca", -103, "train", 0);
            Twins.unread(Stage::rich, "abc;", -103, "train", 0);
            Twins.unread(Stage::full, "abcdefghij", -103, "train", 5);
        });
        Edges.edge("the length, if it ends too early.", () -> {
            Twins.unread(Stage::rich, "", -100, "train", 0);
            Twins.unread(Stage::rich, "", -100, "pairs");
            String whole = "c5 20/30;f4 24/12";
            for (int length = 1; length < whole.length(); length++) {
                if (length != 8) {
                    Twins.unread(Stage::small, whole.substring(0, length), -100 - length, "pairs");
                }
            }
        });
    }
}
