/** Objects on which calls are tried: each method makes a new one, always by the same calls. */
final class Stage {
    static final String A_AND_B = "c5 20/30;w4 24/12";
    static final String C_AND_D = "k9 33/11;p8 17/51";
    static final String SIX = "c0 20/30;f1 21/31;p2 22/32;w3 23/33;s5 24/34;k4 25/35";
    static final String FOUR = "c9 26/36;c8 27/37;k7 28/38;c6 29/39";

    private Stage() {
    }

    static OrreryTrains bare() {
        return new OrreryTrains();
    }

    /** Two bodies and two pairs; a train of both pairs, and none. */
    static OrreryTrains small() {
        OrreryTrains x = new OrreryTrains();
        x.body(7, 3);
        x.body(5, 2);
        pairs(x, A_AND_B);
        train(x, 0, "ab");
        return x;
    }

    /**
     * Four bodies: the first has ab, the second cba, the third d, the last none. The crank stands at 3 and went back; there
     * are a plan of three rows, an image of other things, lists 0 and 3, a text on the paper, and ba on the tape.
     */
    static OrreryTrains rich() {
        OrreryTrains x = new OrreryTrains();
        x.body(7, 3);
        x.body(5, 2);
        x.body(1, 1);
        pairs(x, A_AND_B);
        train(x, 0, "ba");
        x.turn(7);
        x.plan(0, 50);
        x.image();
        x.body(9, 4);
        pairs(x, C_AND_D);
        train(x, 0, "ab");
        train(x, 1, "cba");
        train(x, 2, "d");
        x.bounds(21, 33);
        x.turn(-2);
        x.turn(-2);
        x.plan(1, 1);
        x.plan(2, 0);
        x.list(0, 4);
        x.put(0, 0, 4015000);
        x.put(0, 3, 9);
        x.list(3, 0);
        x.writeTrain(1);
        feed(x, "ba");
        return x;
    }

    /** All that has an end is full: six bodies, ten pairs, eight rows, sixty bytes, lists of twelve; no image. */
    static OrreryTrains full() {
        OrreryTrains x = new OrreryTrains();
        for (int body = 0; body < 6; body++) {
            x.body(9999 - body, body + 2);
        }
        pairs(x, SIX);
        pairs(x, FOUR);
        train(x, 0, "abc");
        train(x, 1, "abd");
        train(x, 2, "ba");
        train(x, 3, "cfj");
        train(x, 4, "i");
        train(x, 5, "ghe");
        for (int row = 0; row < 8; row++) {
            x.plan(row % 3, row % 5 + 1);
        }
        for (int list = 0; list < 4; list++) {
            x.list(list, 12);
        }
        x.writePair(9);
        feed(x, SIX + ";c0 20/");
        return x;
    }

    /** A body by ab, the crank at the greatest or the least turn; it went that way last. */
    static OrreryTrains cranked(int v) {
        OrreryTrains x = small();
        for (int i = 0; i < 101; i++) {
            x.turn(v);
        }
        return x;
    }

    static OrreryTrains atGreatestTurn() {
        return cranked(99);
    }

    static OrreryTrains atLeastTurn() {
        return cranked(-99);
    }

    /** A body by one pair alone. */
    static OrreryTrains byOne(int a, int b, String clause) {
        OrreryTrains x = new OrreryTrains();
        x.body(a, b);
        pairs(x, clause);
        train(x, 0, "a");
        return x;
    }

    /** A body by all of these pairs, in their order. */
    static OrreryTrains by(int a, int b, String clauses) {
        OrreryTrains x = new OrreryTrains();
        x.body(a, b);
        pairs(x, clauses);
        train(x, 0, "abc".substring(0, (clauses.length() + 1) / 9));
        return x;
    }

    static OrreryTrains feed(OrreryTrains x, String text) {
        for (int i = 0; i < text.length(); i++) {
            x.feed(text.charAt(i));
        }
        return x;
    }

    static int pairs(OrreryTrains x, String text) {
        feed(x, text);
        return x.pairs();
    }

    static int train(OrreryTrains x, int body, String text) {
        feed(x, text);
        return x.train(body);
    }
}
