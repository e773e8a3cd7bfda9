/** Promises 25 to 30: the crank, where bodies stand, when they meet and are joined, their drift. */
public final class CrankTest {
    private static final long NO = OrreryTrains.NO;

    public static void main(String[] args) {
        promise25Turn();
        promise26Crank();
        promise27Stands();
        promise27StandsFarOut();
        promise28Meet();
        promise29Join();
        promise29JoinAtEdges();
        promise30Drift();
        Due.end();
    }

    private static void crankTo(OrreryTrains x, int turn) {
        for (int left = turn + 10000 - x.crank(0); left != 0;) {
            int v = Math.max(-99, Math.min(99, left));
            x.turn(v);
            left -= v;
        }
        Due.is("crank(0) at " + turn, x.crank(0), turn + 10000);
    }

    private static void promise25Turn() {
        OrreryTrains x = new OrreryTrains();
        for (int v : new int[] {0, 100, -100, Integer.MIN_VALUE, Integer.MAX_VALUE}) {
            Due.is("turn(" + v + ")", x.turn(v), -2);
        }
        Due.is("turn(99)", x.turn(99), 10099);
        Due.is("turn(-99)", x.turn(-99), 10000);
        Due.is("turn(-1)", x.turn(-1), 9999);
        Due.is("turn(1)", x.turn(1), 10000);
        crankTo(x, 9990);
        Due.is("turn(10)", x.turn(10), -3);
        Due.is("turn(100)", x.turn(100), -2);
        Due.is("turn(9)", x.turn(9), 19999);
        Due.is("turn(1)", x.turn(1), -3);
        Due.is("crank(0)", x.crank(0), 19999);
        OrreryTrains y = new OrreryTrains();
        crankTo(y, -9999);
        Due.is("turn(-1)", y.turn(-1), -3);
        Due.is("turn(-99)", y.turn(-99), -3);
        Due.is("turn(1)", y.turn(1), 2);
    }

    private static void promise26Crank() {
        OrreryTrains x = new OrreryTrains();
        Due.is("crank(0)", x.crank(0), 10000);
        Due.is("crank(1)", x.crank(1), 0);
        x.turn(-3);
        Due.is("crank(0)", x.crank(0), 9997);
        Due.is("crank(1)", x.crank(1), 1);
        x.turn(0);
        x.turn(-100);
        x.turn(100);
        Due.is("crank(1) behind what is bad", x.crank(1), 1);
        x.turn(1);
        Due.is("crank(1)", x.crank(1), 0);
        Due.is("crank(2)", x.crank(2), -1);
        Due.is("crank(-1)", x.crank(-1), -1);
        crankTo(x, 9999);
        x.turn(-1);
        x.turn(5);
        Due.is("crank(1) behind what is too far", x.crank(1), 1);
    }

    private static void promise27Stands() {
        OrreryTrains x = Due.workshop();
        Due.is("stands(0)", x.stands(0), NO);
        Due.is("stands(3)", x.stands(3), NO);
        Due.is("stands(-1)", x.stands(-1), NO);
        Due.train(x, 0, "ab", 2);
        Due.train(x, 1, "cba", 3);
        Due.train(x, 2, "d", 1);
        Due.is("stands(2) at 0", x.stands(2), 0);
        x.turn(5);
        Due.is("stands(0)", x.stands(0), 6666666);
        Due.is("stands(1)", x.stands(1), 20000000);
        Due.is("stands(2)", x.stands(2), -1666666);
        x.turn(-2);
        Due.is("stands(0) back", x.stands(0), 4000000 + 15000);
        Due.is("stands(1) back", x.stands(1), 12020353);
        Due.is("stands(2) back", x.stands(2), -1000000 - 784);
        x.turn(-3);
        Due.is("stands(0) at 0, back", x.stands(0), 15000);
        Due.is("stands(2) at 0, back", x.stands(2), -784);
        x.turn(-5);
        Due.is("stands(0) below 0, back", x.stands(0), -6666666 + 15000);
        Due.is("stands(2) below 0, back", x.stands(2), 1666666 - 784);
        x.turn(1);
        Due.is("stands(2) below 0, on", x.stands(2), 1333333);
        x.becomes(3, 5, 8);
        Due.is("stands(2), crowned", x.stands(2), -1333333);
        x.teeth(3, 1, 17);
        Due.is("stands(2), other teeth", x.stands(2), -4000000);
        x.drop(2);
        Due.is("stands(2), dropped", x.stands(2), NO);
    }

    private static void promise27StandsFarOut() {
        OrreryTrains x = new OrreryTrains();
        x.body(1, 1);
        Due.pairs(x, "k0 99/10;k0 99/10;k0 99/10", 3);
        Due.train(x, 0, "abc", 3);
        crankTo(x, 9999);
        Due.is("stands(0) at 9999", x.stands(0), 9999L * 970299 * 1000);
        crankTo(x, -9999);
        Due.is("stands(0) at -9999", x.stands(0), -9999L * 970299 * 1000);
        x.becomes(0, 3, 9);
        x.becomes(1, 3, 9);
        x.becomes(2, 3, 9);
        // 24 by 1000 by itself, times 99 by 10, and times 9801 by 100; three turn ROUND
        Due.is("stands(0), worn", x.stands(0), 9999L * 970299 * 1000 - (24000 + 237600 + 2352240));
    }

    private static void promise28Meet() {
        OrreryTrains x = Due.workshop();
        Due.is("meet(0, 1)", x.meet(0, 1), NO);
        Due.train(x, 0, "ab", 2);
        Due.is("meet(0, 1)", x.meet(0, 1), NO);
        Due.is("meet(1, 0)", x.meet(1, 0), NO);
        Due.train(x, 1, "d", 1);
        Due.is("meet of 4 by 3 and 1 by 3", x.meet(0, 1), 3);
        x.teeth(3, 1, 34);
        Due.is("meet of 4 by 3 and 1 by 2", x.meet(0, 1), 6);
        Due.is("meet the other way", x.meet(1, 0), 6);
        x.teeth(0, 1, 45);
        Due.is("meet of 8 by 9 and 1 by 2", x.meet(0, 1), 18);
        x.teeth(3, 0, 34);
        Due.is("meet of 8 by 9 and 1", x.meet(0, 1), 9);
        Due.train(x, 0, "c", 1);
        Due.is("meet of 3 and 1", x.meet(0, 1), 1);
        Due.is("meet(0, 0)", x.meet(0, 0), NO);
        Due.is("meet(2, 2)", x.meet(2, 2), NO);
        Due.is("meet(0, 2)", x.meet(0, 2), NO);
        Due.is("meet(0, 3)", x.meet(0, 3), NO);
        Due.is("meet(3, 0)", x.meet(3, 0), NO);
        Due.is("meet(-1, 0)", x.meet(-1, 0), NO);
        Due.is("meet(0, -1)", x.meet(0, -1), NO);
        Due.pairs(x, "c0 10/97;c0 10/89;c0 10/83;c0 11/79;c0 11/73;c0 11/71", 10);
        Due.train(x, 0, "efg", 3);
        Due.train(x, 1, "hij", 3);
        Due.is("meet far on", x.meet(0, 1), 97L * 89 * 83 * 79 * 73 * 71);
    }

    /** BODIES turn by 1 by 2 and 1 by 3, ROUND, and by 1 by 3, not so. */
    private static OrreryTrains joiners() {
        OrreryTrains x = new OrreryTrains();
        x.body(1, 1);
        x.body(1, 1);
        x.body(1, 1);
        x.body(1, 1);
        Due.pairs(x, "c0 10/20;c0 10/30;k0 10/30;k0 19/20;k0 21/20", 5);
        Due.train(x, 0, "a", 1);
        Due.train(x, 1, "b", 1);
        Due.train(x, 2, "c", 1);
        return x;
    }

    private static void promise29Join() {
        OrreryTrains x = joiners();
        Due.is("join(0, 1, 0)", x.join(0, 1, 0), 6);
        Due.is("join(0, 1, 166)", x.join(0, 1, 166), 6);
        Due.is("join(0, 1, 167)", x.join(0, 1, 167), 1);
        Due.is("join(1, 2, 0)", x.join(1, 2, 0), 3);
        Due.is("join(1, 2, 333)", x.join(1, 2, 333), 3);
        Due.is("join(1, 2, 334)", x.join(1, 2, 334), 1);
        Due.is("join(2, 1, 334)", x.join(2, 1, 334), 1);
        x.turn(5);
        Due.is("join(0, 1, 0) at 5", x.join(0, 1, 0), 1);
        x.turn(1);
        Due.is("join(0, 1, 0) at 6", x.join(0, 1, 0), 6);
        x.turn(-13);
        Due.is("join(0, 1, 0) at -7", x.join(0, 1, 0), 1);
        Due.is("join(1, 2, 0) at -7", x.join(1, 2, 0), 1);
        x.turn(-1);
        Due.is("join(0, 1, 0) at -8", x.join(0, 1, 0), 2);
        Due.is("join(1, 2, 0) at -8", x.join(1, 2, 0), 2);
        Due.is("join(0, 1, 500)", x.join(0, 1, 500), -2);
        Due.is("join(0, 1, -1)", x.join(0, 1, -1), -2);
        Due.is("join(0, 1, 499)", x.join(0, 1, 499), 1);
        Due.is("join(0, 3, 499)", x.join(0, 3, 499), -3);
        Due.is("join(3, 0, 499)", x.join(3, 0, 499), -3);
        Due.is("join(3, 0, 500)", x.join(3, 0, 500), -2);
        Due.is("join(0, 0, 500)", x.join(0, 0, 500), -1);
        Due.is("join(0, 4, 500)", x.join(0, 4, 500), -1);
        Due.is("join(4, 0, 1)", x.join(4, 0, 1), -1);
        Due.is("join(-1, 0, 1)", x.join(-1, 0, 1), -1);
        Due.is("join(0, -1, 1)", x.join(0, -1, 1), -1);
    }

    private static void promise29JoinAtEdges() {
        OrreryTrains x = joiners();
        // 19 by 20 and 21 by 20 are apart by 1 by 10 around the whole turn
        Due.train(x, 0, "d", 1);
        Due.train(x, 1, "e", 1);
        Due.is("join(0, 1, 100)", x.join(0, 1, 100), 1);
        Due.is("join(0, 1, 99)", x.join(0, 1, 99), 10);
        Due.pairs(x, "c0 10/97;k0 11/13", 7);
        Due.train(x, 0, "f", 1);
        Due.train(x, 1, "g", 1);
        // they are alike at 0 and at 97 times 13 turns
        Due.is("join(0, 1, 0) too far", x.join(0, 1, 0), -5);
        crankTo(x, 261);
        Due.is("join(0, 1, 0) at 261", x.join(0, 1, 0), -5);
        crankTo(x, 262);
        Due.is("join(0, 1, 0) at 262", x.join(0, 1, 0), 999);
        Due.is("crank(0) behind join", x.crank(0), 10262);
        OrreryTrains y = joiners();
        Due.pairs(y, "k0 98/99;k0 98/99;k0 98/99;k0 99/98;k0 97/98", 10);
        Due.train(y, 0, "fgh", 3);
        Due.train(y, 1, "i", 1);
        crankTo(y, 9999);
        Due.is("join(0, 1, 1) at 9999", y.join(0, 1, 1), 100);
        Due.is("join(0, 1, 20) at 9999", y.join(0, 1, 20), 25);
    }

    private static void promise30Drift() {
        OrreryTrains x = Due.workshop();
        Due.is("drift(0, 1)", x.drift(0, 1), NO);
        Due.train(x, 0, "ab", 2);
        Due.train(x, 1, "cba", 3);
        Due.train(x, 2, "d", 1);
        Due.is("drift(0, 100)", x.drift(0, 100), -100000);
        Due.is("drift(0, 0)", x.drift(0, 0), 0);
        Due.is("drift(1, 9999)", x.drift(1, 9999), 14998500);
        Due.is("drift(2, 1)", x.drift(2, 1), -666);
        Due.is("drift(2, 2)", x.drift(2, 2), -1333);
        Due.is("drift(2, 9999)", x.drift(2, 9999), -6666000);
        x.ratio(2, 2, 7);
        Due.is("drift(2, 10)", x.drift(2, 10), 476);
        Due.is("drift(2, 10000)", x.drift(2, 10000), NO);
        Due.is("drift(2, -1)", x.drift(2, -1), NO);
        Due.is("drift(3, 1)", x.drift(3, 1), NO);
        Due.is("drift(-1, 1)", x.drift(-1, 1), NO);
        Due.pairs(x, "k0 99/10;k0 99/10;k0 99/10;k0 10/97;k0 10/97;k0 10/97", 10);
        Due.train(x, 0, "efg", 3);
        x.ratio(0, 1, 9999);
        Due.is("drift(0, 9999) far out", x.drift(0, 9999), 970299L * 9999 - 1000);
        Due.train(x, 0, "hij", 3);
        x.ratio(0, 9999, 1);
        Due.is("drift(0, 9999) far back", x.drift(0, 9999), -99979990044L);
    }
}
