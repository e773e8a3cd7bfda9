/** Promises 38 to 44: told places judged, lists, the image, counts. */
public final class ListsImageTest {
    private static final long NO = OrreryTrains.NO;

    public static void main(String[] args) {
        promise38Judge();
        promise39List();
        promise40Put();
        promise41Get();
        promise42Image();
        promise43Undo();
        promise43WhatIsNotInTheImage();
        promise44Count();
        promise44Wheels();
        Due.end();
    }

    private static void promise38Judge() {
        OrreryTrains x = Due.workshop();
        Due.is("judge(4)", x.judge(4), -1);
        Due.is("judge(-1)", x.judge(-1), -1);
        Due.is("judge(0)", x.judge(0), -11);
        x.list(0, 0);
        Due.is("judge(0) of no places", x.judge(0), -5);
        x.list(0, 12);
        Due.is("judge(0) of places without trains", x.judge(0), -5);
        x.put(0, 11, 1);
        Due.is("judge(0) of a last one", x.judge(0), 11);
        Due.train(x, 0, "ab", 2);
        Due.train(x, 2, "d", 1);
        x.turn(3);
        Due.is("judge(0) of the first", x.judge(0), 0);
        x.put(0, 0, 4000000);
        Due.is("judge(0) of the third", x.judge(0), 2);
        x.put(0, 2, -1000000);
        Due.is("judge(0) of a last one", x.judge(0), 11);
        x.put(0, 1, 1);
        Due.is("judge(0) of a train that isn't", x.judge(0), 1);
        x.list(3, 2);
        x.put(3, 0, 4000000);
        Due.is("judge(3)", x.judge(3), -5);
        x.turn(-1);
        Due.is("judge(3) elsewhere", x.judge(3), 0);
        x.put(3, 0, 2666666 + 15000);
        Due.is("judge(3) back", x.judge(3), -5);
        x.drop(0);
        Due.is("judge(3) without the train", x.judge(3), 0);
        x.put(3, 0, 0);
        Due.is("judge(3) of 0", x.judge(3), -5);
        Due.is("judge(1)", x.judge(1), -11);
    }

    private static void promise39List() {
        OrreryTrains x = new OrreryTrains();
        Due.is("list(4, 1)", x.list(4, 1), -1);
        Due.is("list(-1, 1)", x.list(-1, 1), -1);
        Due.is("list(4, 13)", x.list(4, 13), -1);
        Due.is("list(-1, -1)", x.list(-1, -1), -1);
        Due.is("list(0, 13)", x.list(0, 13), -2);
        Due.is("list(0, greatest)", x.list(0, Integer.MAX_VALUE), -2);
        Due.is("list(0, -1)", x.list(0, -1), -14);
        Due.is("list(0, least)", x.list(0, Integer.MIN_VALUE), -14);
        Due.is("judge(0)", x.judge(0), -11);
        Due.is("list(0, 12)", x.list(0, 12), 1);
        Due.is("list(3, 0)", x.list(3, 0), 1);
        Due.is("get(0, 11)", x.get(0, 11), 0);
        Due.is("get(0, 12)", x.get(0, 12), NO);
        Due.is("get(3, 0)", x.get(3, 0), NO);
        Due.is("get(1, 0)", x.get(1, 0), NO);
        for (int i = 0; i < 12; i++) {
            x.put(0, i, i + 1);
        }
        Due.is("list(0, 13)", x.list(0, 13), -2);
        Due.is("list(0, -1)", x.list(0, -1), -14);
        Due.is("get(0, 11) behind what is bad", x.get(0, 11), 12);
        Due.is("list(0, 3)", x.list(0, 3), 1);
        for (int i = 0; i < 3; i++) {
            Due.is("get(0, " + i + ") of the new row", x.get(0, i), 0);
        }
        Due.is("get(0, 3) of the new row", x.get(0, 3), NO);
        Due.is("list(0, 12)", x.list(0, 12), 1);
        for (int i = 0; i < 12; i++) {
            Due.is("get(0, " + i + ") of the newest row", x.get(0, i), 0);
        }
    }

    private static void promise40Put() {
        OrreryTrains x = new OrreryTrains();
        Due.is("put(4, 0, 1)", x.put(4, 0, 1), -1);
        Due.is("put(-1, 0, 1)", x.put(-1, 0, 1), -1);
        Due.is("put(0, 0, 1)", x.put(0, 0, 1), -11);
        Due.is("put(0, -1, 1)", x.put(0, -1, 1), -11);
        for (int list = 0; list < 4; list++) {
            x.list(list, 12);
        }
        for (int list = 0; list < 4; list++) {
            for (int i = 0; i < 12; i++) {
                Due.is("put(" + list + ", " + i + ")", x.put(list, i, 100 * list - i), 1);
            }
            Due.is("put(" + list + ", 12)", x.put(list, 12, 9), -13);
            Due.is("put(" + list + ", -1)", x.put(list, -1, 9), -13);
        }
        for (int list = 0; list < 4; list++) {
            for (int i = 0; i < 12; i++) {
                Due.is("get(" + list + ", " + i + ")", x.get(list, i), 100 * list - i);
            }
        }
        x.list(1, 4);
        Due.is("put(1, 4, 9)", x.put(1, 4, 9), -13);
        Due.is("put(1, greatest, 9)", x.put(1, Integer.MAX_VALUE, 9), -13);
        Due.is("put(1, least, 9)", x.put(1, Integer.MIN_VALUE, 9), -13);
        Due.is("put(1, 3, least)", x.put(1, 3, Long.MIN_VALUE), 1);
        Due.is("put(1, 2, greatest)", x.put(1, 2, Long.MAX_VALUE), 1);
        Due.is("get(1, 3)", x.get(1, 3), Long.MIN_VALUE);
        Due.is("get(1, 2)", x.get(1, 2), Long.MAX_VALUE);
        x.list(2, 0);
        Due.is("put(2, 0, 9)", x.put(2, 0, 9), -13);
    }

    private static void promise41Get() {
        OrreryTrains x = new OrreryTrains();
        Due.is("get(0, 0)", x.get(0, 0), NO);
        x.list(0, 4);
        x.put(0, 3, 1L << 40);
        Due.is("get(0, 3)", x.get(0, 3), 1L << 40);
        Due.is("get(0, 4)", x.get(0, 4), NO);
        Due.is("get(0, -1)", x.get(0, -1), NO);
        Due.is("get(0, least)", x.get(0, Integer.MIN_VALUE), NO);
        Due.is("get(4, 0)", x.get(4, 0), NO);
        Due.is("get(-1, 0)", x.get(-1, 0), NO);
        Due.is("get(least, 0)", x.get(Integer.MIN_VALUE, 0), NO);
    }

    private static void promise42Image() {
        OrreryTrains x = new OrreryTrains();
        Due.is("image() of nothing", x.image(), 0);
        Due.is("undo() to nothing", x.undo(), 0);
        x.body(1, 1);
        x.body(1, 2);
        Due.is("undo() to nothing again", x.undo(), 0);
        Due.is("count(0)", x.count(0), 0);
        x.body(1, 1);
        x.body(1, 2);
        Due.is("image() of two", x.image(), 2);
        x.body(1, 3);
        Due.is("count(0) behind the image", x.count(0), 3);
        Due.is("undo() to two", x.undo(), 2);
        x.body(1, 3);
        Due.is("image() of three", x.image(), 3);
        x.body(1, 4);
        Due.is("undo() to three", x.undo(), 3);
        Due.is("term(2, 1)", x.term(2, 1), 3);
    }

    private static void promise43Undo() {
        OrreryTrains x = Due.workshop();
        Due.is("undo() ahead of an image", x.undo(), -3);
        Due.is("count(0)", x.count(0), 3);
        Due.train(x, 0, "abc", 3);
        Due.train(x, 1, "cba", 3);
        x.bounds(10, 24);
        x.turn(3);
        x.turn(-1);
        x.plan(0, 7);
        x.plan(1, 0);
        x.image();
        for (int round = 0; round < 2; round++) {
            x.ratio(0, 1, 9999);
            x.body(3, 4);
            x.bounds(85, 99);
            x.becomes(0, 5, 1);
            x.teeth(0, 0, 99);
            x.teeth(1, 1, 98);
            Due.pairs(x, "c0 10/10", 5);
            Due.train(x, 0, "e", 1);
            x.drop(1);
            Due.train(x, 2, "ab", 2);
            x.turn(9);
            x.plan(2, 3);
            x.plan(-1, 0);
            x.plan(2, 1);
            Due.is("undo()", x.undo(), 3);
            Due.is("count(0)", x.count(0), 3);
            Due.is("term(0, 0)", x.term(0, 0), 2);
            Due.is("count(1)", x.count(1), 4);
            Due.is("count(2)", x.count(2), 2);
            Due.is("count(6)", x.count(6), 2);
            Due.is("pair(0, 0)", x.pair(0, 0), 0);
            Due.is("pair(0, 1)", x.pair(0, 1), 5);
            Due.is("pair(0, 2)", x.pair(0, 2), 20);
            Due.is("pair(1, 3)", x.pair(1, 3), 12);
            Due.is("of(0, 0)", x.of(0, 0), 3);
            Due.is("of(0, 10)", x.of(0, 10), 0);
            Due.is("of(1, 10)", x.of(1, 10), 2);
            Due.is("crank(0)", x.crank(0), 10002);
            Due.is("crank(1)", x.crank(1), 1);
            Due.is("ends(0)", x.ends(0), 9);
            Due.is("bounds(10, 24)", x.bounds(10, 24), 1024);
        }
    }

    private static void promise43WhatIsNotInTheImage() {
        OrreryTrains x = Due.workshop();
        x.writePair(0);
        x.list(0, 2);
        x.put(0, 1, 5);
        Due.feed(x, "ab");
        x.image();
        x.list(0, 3);
        x.put(0, 1, 6);
        x.list(1, 1);
        x.writePair(1);
        x.feed('c');
        x.undo();
        Due.paper(x, "w4 24/12");
        Due.is("get(0, 1)", x.get(0, 1), 6);
        Due.is("get(0, 2)", x.get(0, 2), 0);
        Due.is("get(1, 0)", x.get(1, 0), 0);
        Due.is("count(4)", x.count(4), 3);
        Due.is("train(0)", x.train(0), 3);
    }

    private static void promise44Count() {
        OrreryTrains x = Due.workshop();
        Due.is("count(0)", x.count(0), 3);
        Due.is("count(1)", x.count(1), 4);
        Due.is("count(2)", x.count(2), 0);
        Due.train(x, 2, "a", 1);
        Due.train(x, 0, "dab", 3);
        Due.is("count(2)", x.count(2), 2);
        Due.is("count(4)", x.count(4), 0);
        Due.feed(x, "hello");
        Due.is("count(4)", x.count(4), 5);
        Due.is("count(5)", x.count(5), 0);
        x.writeTrain(0);
        Due.is("count(5)", x.count(5), 3);
        x.writePair(0);
        Due.is("count(5)", x.count(5), 8);
        x.plan(0, 1);
        Due.is("count(6)", x.count(6), 1);
        for (int what : new int[] {-1, 7, Integer.MIN_VALUE, Integer.MAX_VALUE}) {
            Due.is("count(" + what + ")", x.count(what), -2);
        }
    }

    private static void promise44Wheels() {
        OrreryTrains x = Due.workshop();
        x.body(1, 1);
        Due.is("wheels of no trains", x.count(3), 0);
        Due.train(x, 1, "abc", 3);
        Due.is("wheels of abc", x.count(3), 6);
        Due.train(x, 3, "abd", 3);
        Due.is("wheels of abc, abd", x.count(3), 8);
        Due.train(x, 0, "ab", 2);
        Due.is("wheels of abc, abd, ab", x.count(3), 8);
        Due.train(x, 2, "acb", 3);
        Due.is("wheels of abc, abd, ab, acb", x.count(3), 12);
        Due.train(x, 0, "dbc", 3);
        Due.is("wheels of abc, abd, dbc, acb", x.count(3), 18);
        Due.train(x, 0, "abc", 3);
        Due.is("wheels of abc, abd, abc, acb", x.count(3), 12);
        x.drop(1);
        Due.is("wheels of abd, abc, acb", x.count(3), 12);
        x.drop(0);
        Due.is("wheels of abd, acb", x.count(3), 10);
    }
}
