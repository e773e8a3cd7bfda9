/** Promises 10 to 14: the tape, pairs told by it, their kinds, figures and teeth. */
public final class PairsTest {
    public static void main(String[] args) {
        promise10Feed();
        promise11Pairs();
        promise11Faults();
        promise11Full();
        promise12Becomes();
        promise13Teeth();
        promise14Pair();
        promise14Play();
        Due.end();
    }

    private static void promise10Feed() {
        OrreryTrains x = new OrreryTrains();
        Due.is("feed(0)", x.feed(0), -2);
        Due.is("feed(128)", x.feed(128), -2);
        Due.is("feed(-1)", x.feed(-1), -2);
        Due.is("feed(least)", x.feed(Integer.MIN_VALUE), -2);
        Due.is("feed(greatest)", x.feed(Integer.MAX_VALUE), -2);
        Due.is("count(4)", x.count(4), 0);
        Due.is("feed(1)", x.feed(1), 1);
        Due.is("feed(127)", x.feed(127), 2);
        for (int i = 3; i <= 60; i++) {
            Due.is("feed " + i, x.feed('c'), i);
        }
        Due.is("feed 61", x.feed('c'), -4);
        Due.is("feed 61, bad", x.feed(0), -2);
        Due.is("count(4)", x.count(4), 60);
        Due.is("pairs() of 60 bytes", x.pairs(), -100);
        Due.is("feed again", x.feed('c'), 1);
    }

    private static void promise11Pairs() {
        OrreryTrains x = new OrreryTrains();
        Due.pairs(x, "c5 20/30;f4 24/12;p9 33/11", 3);
        Due.pairs(x, "w0 10/99;s1 99/10", 5);
        Due.pairs(x, "k7 57/68", 6);
        Due.is("count(1)", x.count(1), 6);
        int[][] due = {{0, 5, 20, 30}, {1, 4, 24, 12}, {2, 9, 33, 11}, {3, 0, 10, 99}, {4, 1, 99, 10}, {5, 7, 57, 68}};
        for (int pair = 0; pair < 6; pair++) {
            for (int what = 0; what < 4; what++) {
                Due.is("pair(" + pair + ", " + what + ")", x.pair(pair, what), due[pair][what]);
            }
        }
    }

    private static void promise11Faults() {
        OrreryTrains x = new OrreryTrains();
        Due.is("pairs() of nothing", x.pairs(), -100);
        String whole = "c5 20/30;f4 24/12";
        for (int length = 1; length < whole.length(); length++) {
            if (length != 8) {
                Due.pairs(x, whole.substring(0, length), -100 - length);
            }
        }
        Due.pairs(x, "x5 20/30", -100);
        Due.pairs(x, "C5 20/30", -100);
        Due.pairs(x, ";c5 20/30", -100);
        Due.pairs(x, " c5 20/30", -100);
        Due.pairs(x, "cc 20/30", -101);
        Due.pairs(x, "c/ 20/30", -101);
        Due.pairs(x, "c: 20/30", -101);
        Due.pairs(x, "c55 20/30", -102);
        Due.pairs(x, "c5  20/30", -103);
        Due.pairs(x, "c5 00/30", -103);
        Due.pairs(x, "c5 :0/30", -103);
        Due.pairs(x, "c5 2/30", -104);
        Due.pairs(x, "c5 2:/30", -104);
        Due.pairs(x, "c5 200/30", -105);
        Due.pairs(x, "c5 20:30", -105);
        Due.pairs(x, "c5 20/03", -106);
        Due.pairs(x, "c5 20//3", -106);
        Due.pairs(x, "c5 20/3;", -107);
        Due.pairs(x, "c5 20/300", -108);
        Due.pairs(x, "c5 20/30 ", -108);
        Due.pairs(x, "c5 20/30;", -109);
        Due.pairs(x, "c5 20/30;;", -109);
        Due.pairs(x, "c5 20/30;f4 24/12;a", -118);
        Due.pairs(x, "c5 20/30;f4 24x12;a", -114);
        Due.is("count(1)", x.count(1), 0);
        Due.pairs(x, "c5 20/30", 1);
    }

    private static void promise11Full() {
        OrreryTrains x = new OrreryTrains();
        Due.pairs(x, "c5 20/30;f4 24/12;p9 33/11;w0 10/99;s1 99/10;k7 57/68", 6);
        Due.pairs(x, "c5 20/30;f4 24/12;p9 33/11;w0 10/99;s1 99/10", -4);
        Due.is("count(1)", x.count(1), 6);
        Due.pairs(x, "c5 20/30;f4 24/12;p9 33/11;w0 10/99;s1 99/10;", -145);
        Due.pairs(x, "c5 20/30;f4 24/12;p9 33/11;w0 11/99", 10);
        Due.is("pair(9, 2)", x.pair(9, 2), 11);
        Due.pairs(x, "c5 20/30", -4);
        Due.pairs(x, "c5 20/30;", -109);
        Due.pairs(x, "", -100);
        Due.is("count(1)", x.count(1), 10);
        Due.is("pair(10, 0)", x.pair(10, 0), -1);
    }

    private static void promise12Becomes() {
        OrreryTrains x = new OrreryTrains();
        Due.is("becomes(0, 0, 0) of none", x.becomes(0, 0, 0), -1);
        Due.pairs(x, "k9 20/30;c0 20/30", 2);
        Due.is("becomes(0, 0, 0)", x.becomes(0, 0, 0), 59);
        Due.is("becomes(0, 5, 9)", x.becomes(0, 5, 9), 0);
        Due.is("becomes(0, 3, 4)", x.becomes(0, 3, 4), 59);
        Due.is("becomes(0, 6, 4)", x.becomes(0, 6, 4), -1);
        Due.is("becomes(0, -1, 4)", x.becomes(0, -1, 4), -1);
        Due.is("becomes(0, 6, 10)", x.becomes(0, 6, 10), -1);
        Due.is("becomes(2, 0, 10)", x.becomes(2, 0, 10), -1);
        Due.is("becomes(-1, 0, 0)", x.becomes(-1, 0, 0), -1);
        Due.is("becomes(0, 1, 10)", x.becomes(0, 1, 10), -2);
        Due.is("becomes(0, 1, -1)", x.becomes(0, 1, -1), -2);
        Due.is("pair(0, 0)", x.pair(0, 0), 3);
        Due.is("pair(0, 1)", x.pair(0, 1), 4);
        Due.is("pair(1, 0)", x.pair(1, 0), 0);
        Due.is("pair(1, 1)", x.pair(1, 1), 0);
    }

    private static void promise13Teeth() {
        OrreryTrains x = new OrreryTrains();
        Due.is("teeth(0, 0, 50) of none", x.teeth(0, 0, 50), -1);
        Due.pairs(x, "k9 20/30;c0 40/50", 2);
        Due.is("teeth(0, 0, 10)", x.teeth(0, 0, 10), 20);
        Due.is("teeth(0, 0, 99)", x.teeth(0, 0, 99), 10);
        Due.is("teeth(0, 1, 99)", x.teeth(0, 1, 99), 30);
        Due.is("teeth(0, 1, 10)", x.teeth(0, 1, 10), 99);
        Due.is("teeth(1, 1, 51)", x.teeth(1, 1, 51), 50);
        Due.is("teeth(0, 0, 9)", x.teeth(0, 0, 9), -2);
        Due.is("teeth(0, 0, 100)", x.teeth(0, 0, 100), -2);
        Due.is("teeth(0, 1, 9)", x.teeth(0, 1, 9), -2);
        Due.is("teeth(0, 2, 9)", x.teeth(0, 2, 9), -1);
        Due.is("teeth(0, -1, 50)", x.teeth(0, -1, 50), -1);
        Due.is("teeth(2, 0, 9)", x.teeth(2, 0, 9), -1);
        Due.is("teeth(-1, 0, 50)", x.teeth(-1, 0, 50), -1);
        Due.is("pair(0, 2)", x.pair(0, 2), 99);
        Due.is("pair(0, 3)", x.pair(0, 3), 10);
        Due.is("pair(1, 2)", x.pair(1, 2), 40);
        Due.is("pair(1, 3)", x.pair(1, 3), 51);
    }

    private static void promise14Pair() {
        OrreryTrains x = new OrreryTrains();
        Due.pairs(x, "c5 20/30;k4 24/12", 2);
        Due.is("pair(0, 5)", x.pair(0, 5), 1);
        Due.is("pair(1, 5)", x.pair(1, 5), 0);
        Due.is("pair(0, 6)", x.pair(0, 6), 0);
        Due.is("pair(0, 7)", x.pair(0, 7), -1);
        Due.is("pair(0, -1)", x.pair(0, -1), -1);
        Due.is("pair(2, 0)", x.pair(2, 0), -1);
        Due.is("pair(-1, 0)", x.pair(-1, 0), -1);
        Due.is("pair(greatest, 0)", x.pair(Integer.MAX_VALUE, 0), -1);
        x.body(1, 1);
        x.body(1, 1);
        x.body(1, 1);
        Due.train(x, 0, "ab", 2);
        Due.train(x, 2, "b", 1);
        Due.is("pair(0, 6)", x.pair(0, 6), 1);
        Due.is("pair(1, 6)", x.pair(1, 6), 2);
        x.drop(0);
        Due.is("pair(0, 6)", x.pair(0, 6), 0);
        Due.is("pair(1, 6)", x.pair(1, 6), 1);
    }

    private static void promise14Play() {
        OrreryTrains x = new OrreryTrains();
        Due.pairs(x, "c0 20/30", 1);
        int[][] plays = {
            {0, 1, 2, 3, 4, 5, 6, 7, 8, 9}, {3, 4, 5, 6, 7, 8, 9, 10, 11, 12}, {0, 0, 1, 1, 2, 2, 3, 3, 4, 4},
            {6, 8, 10, 12, 14, 16, 18, 20, 22, 24}, {0, 0, 0, 1, 0, 2, 0, 3, 0, 4}, {0, 1, 2, 3, 4, 5, 6, 7, 8, 9}};
        for (int kind = 0; kind < 6; kind++) {
            for (int figure = 0; figure < 10; figure++) {
                x.becomes(0, kind, figure);
                Due.is("play of kind " + kind + ", figure " + figure, x.pair(0, 4), plays[kind][figure]);
                Due.is("round by kind " + kind, x.pair(0, 5), kind == 5 ? 0 : 1);
            }
        }
    }
}
