/** The edges of promises 35 to 44: what is written, lists, the image, counts; and those of the answers. */
final class ListsEdges {
    private static final long NO = OrreryTrains.NO;
    private static final int NONE = -1, BAD = -2, STATE = -3, FULL = -4, NOTHING = -11, BEYOND = -13, BELOW = -14, AGREED = -5;
    private static final int LEAST = Integer.MIN_VALUE, MOST = Integer.MAX_VALUE;

    /** Stage.rich() has four bodies, the last without a train, four pairs, and lists 0 and 3 alone. */
    private static final int[] NO_BODY_OF_FOUR = {-1, 4, 5, 6, LEAST, MOST};
    private static final int[] NO_LISTS = {-1, 4, 5, LEAST, MOST};
    private static final int WITHOUT_TRAIN = 3;

    private ListsEdges() {
    }

    static void tell() {
        promise35();
        promise36();
        promise37();
        promise38();
        promise39();
        promise40();
        promise41();
        promise42();
        promise43();
        promise44();
        termsOfPaper();
        termsOfLists();
        termsOfImage();
    }

    private static void promise35() {
        Edges.promise(35);
        Edges.edge("THE PAPER becomes a PAIR WRITTEN: how many bytes.", () -> {
            OrreryTrains x = Stage.full();
            Due.is("writePair(0)", x.writePair(0), 8);
            Due.paper(x, "c0 20/30");
            Due.is("writePair(9)", x.writePair(9), 8);
            Due.paper(x, "c6 29/39");
            Due.is("count(5)", x.count(5), 8);
        });
        Edges.edge("NONE.", () -> {
            for (int pair : new int[] {-1, 4, 9, 10, LEAST, MOST}) {
                Twins.unchanged(Stage::rich, NONE, "writePair", pair);
            }
            Twins.unchanged(Stage::full, NONE, "writePair", 10);
            Twins.unchanged(Stage::bare, NONE, "writePair", 0);
        });
    }

    private static void promise36() {
        Edges.promise(36);
        Edges.edge("THE PAPER becomes a BODY's TRAIN WRITTEN: how many bytes.", () -> {
            OrreryTrains x = Stage.full();
            Due.is("writeTrain(5)", x.writeTrain(5), 3);
            Due.paper(x, "ghe");
            Due.is("writeTrain(2)", x.writeTrain(2), 2);
            Due.paper(x, "ba");
            Due.is("writeTrain(4)", x.writeTrain(4), 1);
            Due.paper(x, "i");
        });
        Edges.edge("NONE;", () -> {
            for (int body : NO_BODY_OF_FOUR) {
                Twins.unchanged(Stage::rich, NONE, "writeTrain", body);
            }
            Twins.unchanged(Stage::full, NONE, "writeTrain", 6);
        });
        Edges.edge("STATE: it has none.", () -> {
            Twins.unchanged(Stage::rich, STATE, "writeTrain", WITHOUT_TRAIN);
            OrreryTrains x = Stage.rich();
            x.drop(1);
            Due.is("behind drop", x.writeTrain(1), STATE);
            Due.paper(x, "cba");
        });
    }

    private static void promise37() {
        Edges.promise(37);
        Edges.edge("Byte i of THE PAPER.", () -> {
            Twins.unchanged(Stage::rich, 'c', "paper", 0);
            Twins.unchanged(Stage::rich, 'b', "paper", 1);
            Twins.unchanged(Stage::rich, 'a', "paper", 2);
            Twins.unchanged(Stage::full, ' ', "paper", 2);
            Twins.unchanged(Stage::full, '9', "paper", 7);
        });
        Edges.edge("NONE.", () -> {
            for (int i : new int[] {-1, 3, 7, 8, 9, LEAST, MOST}) {
                Twins.unchanged(Stage::rich, NONE, "paper", i);
            }
            for (int i : new int[] {-1, 8, 9, 60}) {
                Twins.unchanged(Stage::full, NONE, "paper", i);
            }
            Twins.unchanged(Stage::bare, NONE, "paper", 0);
        });
    }

    private static OrreryTrains told(long... places) {
        OrreryTrains x = Stage.rich();
        x.list(0, places.length);
        for (int i = 0; i < places.length; i++) {
            x.put(0, i, places[i]);
        }
        return x;
    }

    private static void promise38() {
        Edges.promise(38);
        Edges.edge("JUDGED.", () -> {
            Twins.unchanged(Stage::rich, 1, "judge", 0);
            Twins.unchanged(Stage::rich, AGREED, "judge", 3);
            Twins.unchanged(() -> told(4015000, 12020353, -1000784, 0), AGREED, "judge", 0);
        });
        Edges.edge("NONE;", () -> {
            for (int list : NO_LISTS) {
                Twins.unchanged(Stage::rich, NONE, "judge", list);
                Twins.unchanged(Stage::full, NONE, "judge", list);
            }
        });
        Edges.edge("NOTHING.", () -> {
            Twins.unchanged(Stage::rich, NOTHING, "judge", 1);
            Twins.unchanged(Stage::rich, NOTHING, "judge", 2);
            Twins.unchanged(Stage::bare, NOTHING, "judge", 3);
        });
    }

    private static void promise39() {
        Edges.promise(39);
        Edges.edge("A LIST becomes a row of n longs, all 0: 1.", () -> {
            OrreryTrains x = told(1, 2, 3, 4, 5, 6, 7, 8, 9, 10, 11, 12);
            Due.is("list(0, 3)", x.list(0, 3), 1);
            rowIs(x, 0, 0, 0, 0);
            Due.is("list(0, 12)", x.list(0, 12), 1);
            rowIs(x, 0, new long[12]);
            Due.is("list(0, 0)", x.list(0, 0), 1);
            rowIs(x, 0);
            Due.is("list(3, 1)", x.list(3, 1), 1);
            rowIs(x, 3, 0);
        });
        Edges.edge("NONE: list;", () -> {
            for (int list : NO_LISTS) {
                Twins.unchanged(Stage::rich, NONE, "list", list, 1);
                Twins.unchanged(Stage::rich, NONE, "list", list, 13);
                Twins.unchanged(Stage::rich, NONE, "list", list, -1);
            }
        });
        Edges.edge("BAD: n above 12;", () -> {
            for (int n : new int[] {13, 14, 100, MOST}) {
                Twins.unchanged(Stage::rich, BAD, "list", 0, n);
                Twins.unchanged(Stage::rich, BAD, "list", 1, n);
            }
        });
        Edges.edge("BELOW.", () -> {
            for (int n : new int[] {-1, -2, -12, LEAST}) {
                Twins.unchanged(Stage::rich, BELOW, "list", 0, n);
                Twins.unchanged(Stage::rich, BELOW, "list", 1, n);
            }
        });
    }

    private static void rowIs(OrreryTrains x, int list, long... due) {
        for (int i = 0; i < due.length; i++) {
            Due.is("get(" + list + ", " + i + ")", x.get(list, i), due[i]);
        }
        for (int i = due.length; i < 14; i++) {
            Due.is("get(" + list + ", " + i + ") behind the last", x.get(list, i), NO);
            Due.is("put(" + list + ", " + i + ") behind the last", x.put(list, i, 1), BEYOND);
        }
    }

    private static void promise40() {
        Edges.promise(40);
        Edges.edge("Place i of a LIST becomes v: 1.", () -> {
            OrreryTrains x = Stage.full();
            for (int list = 0; list < 4; list++) {
                for (int i = 0; i < 12; i++) {
                    Due.is("put(" + list + ", " + i + ")", x.put(list, i, 12L * list + i), 1);
                }
            }
            for (int list = 0; list < 4; list++) {
                for (int i = 0; i < 12; i++) {
                    Due.is("get(" + list + ", " + i + ")", x.get(list, i), 12L * list + i);
                }
            }
            Due.is("put of the least", x.put(3, 11, Long.MIN_VALUE), 1);
            Due.is("get of the least", x.get(3, 11), Long.MIN_VALUE);
            Due.is("put of the greatest", x.put(3, 11, Long.MAX_VALUE), 1);
            Due.is("get of the greatest", x.get(3, 11), Long.MAX_VALUE);
        });
        Edges.edge("NONE;", () -> {
            for (int list : NO_LISTS) {
                Twins.unchanged(Stage::rich, NONE, "put", list, 0, 1L);
                Twins.unchanged(Stage::rich, NONE, "put", list, -1, 1L);
                Twins.unchanged(Stage::full, NONE, "put", list, 12, 1L);
            }
        });
        Edges.edge("NOTHING;", () -> {
            for (int i : new int[] {0, -1, 12, LEAST, MOST}) {
                Twins.unchanged(Stage::rich, NOTHING, "put", 1, i, 1L);
                Twins.unchanged(Stage::rich, NOTHING, "put", 2, i, 1L);
            }
        });
        Edges.edge("BEYOND.", () -> {
            for (int i : new int[] {-1, 4, 5, 11, 12, LEAST, MOST}) {
                Twins.unchanged(Stage::rich, BEYOND, "put", 0, i, 1L);
            }
            for (int i : new int[] {-1, 0, 1}) {
                Twins.unchanged(Stage::rich, BEYOND, "put", 3, i, 1L);
            }
            Twins.unchanged(Stage::full, BEYOND, "put", 0, 12, 1L);
            Twins.unchanged(Stage::full, BEYOND, "put", 1, -1, 1L);
        });
    }

    private static void promise41() {
        Edges.promise(41);
        Edges.edge("Place i of a LIST.", () -> {
            Twins.unchanged(Stage::rich, 4015000, "get", 0, 0);
            Twins.unchanged(Stage::rich, 0, "get", 0, 1);
            Twins.unchanged(Stage::rich, 9, "get", 0, 3);
        });
        Edges.edge("NO: no such LIST,", () -> {
            for (int list : NO_LISTS) {
                Twins.unchanged(Stage::rich, NO, "get", list, 0);
            }
            Twins.unchanged(Stage::full, NO, "get", 4, 0);
            Twins.unchanged(Stage::full, NO, "get", -1, 11);
        });
        Edges.edge("nothing there,", () -> {
            Twins.unchanged(Stage::rich, NO, "get", 1, 0);
            Twins.unchanged(Stage::rich, NO, "get", 2, 0);
            Twins.unchanged(Stage::bare, NO, "get", 0, 0);
        });
        Edges.edge("no such place.", () -> {
            for (int i : new int[] {-1, 4, 5, 11, 12, LEAST, MOST}) {
                Twins.unchanged(Stage::rich, NO, "get", 0, i);
            }
            Twins.unchanged(Stage::rich, NO, "get", 3, 0);
            Twins.unchanged(() -> {
                OrreryTrains x = told(1, 2, 3, 4, 5, 6);
                x.list(0, 4);
                return x;
            }, NO, "get", 0, 5);
        });
    }

    private static void promise42() {
        Edges.promise(42);
        Edges.edge("THE IMAGE is taken: how many BODIES.", () -> {
            Due.is("of a new object", new OrreryTrains().image(), 0);
            Due.is("of six", Stage.full().image(), 6);
            OrreryTrains x = Stage.rich();
            Due.is("in place of one of three", x.image(), 4);
            x.drop(0);
            Due.is("back to it", x.undo(), 4);
            Due.is("its train", x.of(0, 0), 2);
            Twins.same(Stage::full, "image() and undo()", y -> {
                y.image();
                y.undo();
            }, OrreryTrains::image);
        });
    }

    private static void promise43() {
        Edges.promise(43);
        Edges.edge("All is as THE IMAGE: how many BODIES.", () -> {
            OrreryTrains x = Stage.rich();
            Due.is("undo()", x.undo(), 3);
            Due.is("undo() again", x.undo(), 3);
            Due.is("count(0)", x.count(0), 3);
            Due.is("crank(0)", x.crank(0), 10007);
            Due.is("of(0, 10)", x.of(0, 10), 1);
            Due.is("count(6)", x.count(6), 1);
            OrreryTrains y = new OrreryTrains();
            y.image();
            y.body(1, 1);
            Due.is("undo() to nothing", y.undo(), 0);
            Due.is("count(0)", y.count(0), 0);
        });
        Edges.edge("STATE: there is none.", () -> {
            Twins.unchanged(Stage::bare, STATE, "undo");
            Twins.unchanged(Stage::small, STATE, "undo");
            Twins.unchanged(Stage::full, STATE, "undo");
        });
    }

    private static void promise44() {
        Edges.promise(44);
        Edges.edge("How many: 0 BODIES, 1 PAIRS, 2 TRAINS, 3 WHEELS, 4 bytes on THE TAPE, 5 of THE PAPER, 6 ROWS of the PLAN.", () -> {
            int[] rich = {4, 4, 3, 12, 2, 3, 3};
            int[] full = {6, 10, 6, 26, 60, 8, 8};
            for (int what = 0; what < 7; what++) {
                Twins.unchanged(Stage::bare, 0, "count", what);
                Twins.unchanged(Stage::rich, rich[what], "count", what);
                Twins.unchanged(Stage::full, full[what], "count", what);
            }
        });
        Edges.edge("BAD.", () -> {
            for (int what : new int[] {-1, 7, 8, LEAST, MOST}) {
                Twins.unchanged(Stage::rich, BAD, "count", what);
            }
        });
    }

    private static void termsOfPaper() {
        Edges.terms();
        Edges.edge("WRITTEN is a PAIR as THE TAPE tells it,", () -> {
            String[] texts = {"c0 10/99", "f1 99/10", "p2 20/30", "w3 31/13", "s4 90/19", "k9 55/66"};
            OrreryTrains x = new OrreryTrains();
            for (int pair = 0; pair < texts.length; pair++) {
                Stage.pairs(x, texts[pair]);
                Due.is("writePair", x.writePair(pair), 8);
                Due.paper(x, texts[pair]);
            }
        });
        Edges.edge("a TRAIN by its letters.", () -> {
            OrreryTrains x = Stage.full();
            for (String text : new String[] {"j", "ja", "aj", "jia", "abc"}) {
                x.train(0);
                Due.is("train", Stage.train(x, 0, text), text.length());
                Due.is("writeTrain", x.writeTrain(0), text.length());
                Due.paper(x, text);
            }
        });
        Edges.edge("THE PAPER holds the latest one (nothing at first).", () -> {
            OrreryTrains x = Stage.small();
            Due.paper(x, "");
            x.writePair(0);
            Due.paper(x, "c5 20/30");
            x.writeTrain(0);
            Due.paper(x, "ab");
            x.writePair(1);
            Due.paper(x, "w4 24/12");
            x.becomes(1, 0, 0);
            x.teeth(1, 0, 99);
            x.drop(0);
            Due.paper(x, "w4 24/12");
        });
    }

    private static void termsOfLists() {
        Edges.terms();
        Edges.edge("LISTS 0 .. 3 hold nothing (at first)", () -> {
            for (int list = 0; list < 4; list++) {
                Twins.unchanged(Stage::bare, NOTHING, "judge", list);
                Twins.unchanged(Stage::bare, NO, "get", list, 0);
                Twins.unchanged(Stage::bare, NOTHING, "put", list, 0, 0L);
            }
            Twins.unchanged(Stage::bare, NONE, "judge", 4);
        });
        Edges.edge("or a row of 0 .. 12 longs.", () -> {
            OrreryTrains x = new OrreryTrains();
            for (int n = 0; n <= 12; n++) {
                Due.is("list of " + n, x.list(n % 4, n), 1);
                rowIs(x, n % 4, new long[n]);
            }
            Due.is("list of 13", x.list(0, 13), BAD);
            Due.is("list of -1", x.list(0, -1), BELOW);
        });
        Edges.edge("NOTHING (-11): none is held;", () -> {
            OrreryTrains x = new OrreryTrains();
            x.list(1, 0);
            Due.is("of none", x.judge(0), -11);
            Due.is("of a row of 0", x.judge(1), AGREED);
            Due.is("put to none", x.put(0, 0, 1), -11);
            Due.is("put to a row of 0", x.put(1, 0, 1), -13);
        });
        Edges.edge("BEYOND (-13): no such place;", () -> {
            OrreryTrains x = told(1, 2, 3);
            Due.is("ahead of the first", x.put(0, -1, 9), -13);
            Due.is("the last", x.put(0, 2, 9), 1);
            Due.is("behind the last", x.put(0, 3, 9), -13);
            rowIs(x, 0, 1, 2, 9);
        });
        Edges.edge("BELOW (-14): a size below 0.", () -> {
            OrreryTrains x = told(1, 2, 3);
            Due.is("-1", x.list(0, -1), -14);
            Due.is("the least", x.list(0, LEAST), -14);
            rowIs(x, 0, 1, 2, 3);
            Due.is("0", x.list(0, 0), 1);
        });
        Edges.edge("JUDGED: a LIST tells where BODIES 0, 1, 2, .. STAND", () -> {
            Due.is("all", told(4015000, 12020353, -1000784).judge(0), AGREED);
            Due.is("fewer than there are", told(4015000).judge(0), AGREED);
            OrreryTrains x = Stage.full();
            x.turn(1);
            for (int body = 0; body < 6; body++) {
                Due.is("body " + body, x.judge(2), body);
                x.put(2, body, x.stands(body));
            }
            Due.is("all six", x.judge(2), AGREED);
            x.turn(-1);
            Due.is("elsewhere", x.judge(2), 0);
        });
        Edges.edge("(0 for one that isn't there, or has no TRAIN):", () -> {
            Due.is("0 for the fourth, and for eight that aren't there",
                told(4015000, 12020353, -1000784, 0, 0, 0, 0, 0, 0, 0, 0, 0).judge(0), AGREED);
            Due.is("1 for the one without a train", told(4015000, 12020353, -1000784, 1).judge(0), 3);
            Due.is("1 for the first that isn't there", told(4015000, 12020353, -1000784, 0, 1).judge(0), 4);
            Due.is("1 for the twelfth", told(4015000, 12020353, -1000784, 0, 0, 0, 0, 0, 0, 0, 0, 1).judge(0), 11);
            Due.is("NO for the one without a train", told(4015000, 12020353, -1000784, NO).judge(0), 3);
        });
        Edges.edge("the first place that is otherwise;", () -> {
            Due.is("the first", told(4015001, 12020354, -1000785).judge(0), 0);
            Due.is("the second", told(4015000, 12020354, -1000785).judge(0), 1);
            Due.is("the third", told(4015000, 12020353, 1000784).judge(0), 2);
            Due.is("beyond 32 bits", told(4015000 + (1L << 32), 12020353).judge(0), 0);
        });
        Edges.edge("-5: none.", () -> {
            Due.is("of a row of 0", told().judge(0), -5);
            Due.is("of one", told(4015000).judge(0), -5);
        });
    }

    private static void termsOfImage() {
        Edges.terms();
        Edges.edge("THE IMAGE: BODIES, BOUNDS, PAIRS, TRAINS, THE CRANK, the PLAN", () -> {
            Twins.same(Stage::rich, "all becomes another, then undo()", x -> {
                x.image();
                x.body(1, 1);
                x.ratio(0, 1, 1);
                x.bounds(50, 60);
                Stage.pairs(x, "x");
                Stage.pairs(x, "c0 10/99");
                x.becomes(0, 5, 9);
                x.teeth(1, 0, 99);
                x.teeth(1, 1, 98);
                Stage.train(x, WITHOUT_TRAIN, "e");
                Stage.train(x, 0, "cd");
                x.drop(1);
                x.turn(9);
                x.plan(0, 1);
                x.plan(-1, 0);
                x.plan(2, 3);
                x.undo();
            }, x -> {
                x.image();
                Stage.pairs(x, "x");
            });
            Twins.same(Stage::bare, "undo() to nothing", x -> {
                x.image();
                x.body(1, 2);
                Stage.pairs(x, "c0 10/99");
                Stage.train(x, 0, "a");
                x.bounds(10, 24);
                x.turn(-1);
                x.plan(0, 1);
                x.undo();
            }, OrreryTrains::image);
        });
        Edges.edge("(not LISTS, THE TAPE, THE PAPER).", () -> {
            OrreryTrains x = Stage.rich();
            x.list(1, 2);
            x.put(0, 1, 77);
            x.writePair(3);
            x.undo();
            rowIs(x, 0, 4015000, 77, 0, 9);
            rowIs(x, 1, 0, 0);
            Due.paper(x, "p8 17/51");
            Due.is("count(4)", x.count(4), 2);
            Due.is("train(2)", x.train(2), 2);
            Due.is("of(2, 10)", x.of(2, 10), 1);
        });
    }
}
