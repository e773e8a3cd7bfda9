/** Promises 31 to 34: teeth that were, odds by draws, plans and where they end. */
public final class OddsPlansTest {
    private static final long NO = OrreryTrains.NO;

    public static void main(String[] args) {
        promise31Were();
        promise31WereBack();
        promise32Odds();
        promise32OddsBySeeds();
        promise33Plan();
        promise34Ends();
        promise34EndsOfRows();
        promise34EndsHeld();
        Due.end();
    }

    private static OrreryTrains workshop() {
        OrreryTrains x = Due.workshop();
        Due.train(x, 0, "ab", 2);
        Due.train(x, 1, "cba", 3);
        Due.train(x, 2, "d", 1);
        return x;
    }

    private static void were(OrreryTrains x, int body, int k, long v, int many, int least) {
        String told = "were(" + body + ", " + k + ", " + v + ", ";
        Due.is(told + "0)", x.were(body, k, v, 0), many);
        Due.is(told + "1)", x.were(body, k, v, 1), least);
    }

    private static void promise31Were() {
        OrreryTrains x = workshop();
        x.body(1, 1);
        were(x, 2, 0, 0, 90, 10);
        were(x, 2, 0, 1, 0, -5);
        x.turn(3);
        were(x, 2, 0, -1000000, 1, 17);
        were(x, 2, 0, 1000000, 0, -5);
        were(x, 2, 0, -588235, 1, 10);
        were(x, 2, 0, -5823529, 1, 99);
        were(x, 2, 0, -529411, 0, -5);
        were(x, 2, 0, -5882352, 0, -5);
        were(x, 0, 0, 4000000, 1, 20);
        were(x, 0, 1, 4000000, 1, 24);
        were(x, 0, 1, 2000000, 1, 12);
        were(x, 1, 2, 6000000, 1, 10);
        were(x, 1, 0, 6000000, 0, -5);
        were(x, 0, 0, Long.MIN_VALUE, 0, -5);
        were(x, 0, 0, Long.MAX_VALUE, 0, -5);
        Due.is("pair(3, 2) behind were", x.pair(3, 2), 17);
        Due.is("were(2, 1, 0, 0)", x.were(2, 1, 0, 0), -3);
        Due.is("were(0, 2, 0, 0)", x.were(0, 2, 0, 0), -3);
        Due.is("were(3, 0, 0, 0)", x.were(3, 0, 0, 0), -3);
        Due.is("were(0, 3, 0, 0)", x.were(0, 3, 0, 0), -1);
        Due.is("were(1, 3, 0, 0)", x.were(1, 3, 0, 0), -1);
        Due.is("were(0, -1, 0, 0)", x.were(0, -1, 0, 0), -1);
        Due.is("were(0, 0, 0, 2)", x.were(0, 0, 0, 2), -1);
        Due.is("were(0, 0, 0, -1)", x.were(0, 0, 0, -1), -1);
        Due.is("were(3, 0, 0, 2)", x.were(3, 0, 0, 2), -1);
        Due.is("were(4, 0, 0, 0)", x.were(4, 0, 0, 0), -1);
        Due.is("were(-1, 0, 0, 0)", x.were(-1, 0, 0, 0), -1);
    }

    private static void promise31WereBack() {
        OrreryTrains x = workshop();
        x.turn(-1);
        x.turn(1);
        x.turn(1);
        x.turn(-1);
        // 5 by 3000 times z by 12, and 14 by 1200
        were(x, 0, 0, 15000, 90, 10);
        were(x, 0, 1, 15000, 1, 24);
        were(x, 0, 1, 11666 + 1389, 1, 10);
        were(x, 0, 1, 11666, 0, -5);
        x.turn(-1);
        were(x, 0, 0, -1333333 + 15000, 1, 20);
        were(x, 0, 1, -1333333 + 15000, 1, 24);
    }

    private static void odds(OrreryTrains x, int body, int seed, int m, long above, long below) {
        String told = "odds(" + body + ", " + seed + ", " + m + ", ";
        Due.is(told + "0)", x.odds(body, seed, m, 0), above);
        Due.is(told + "1)", x.odds(body, seed, m, 1), below);
    }

    private static void promise32Odds() {
        OrreryTrains x = workshop();
        x.body(1, 1);
        odds(x, 0, 7, 30, 17, 30);
        odds(x, 0, 0, 1, 0, 1);
        odds(x, 0, 1, 2, 1, 1);
        odds(x, 0, 12345, 12, 1, 1);
        odds(x, 0, Integer.MAX_VALUE - 9, 20, 19, 20);
        odds(x, 0, Integer.MAX_VALUE, 30, 29, 30);
        odds(x, 0, Integer.MIN_VALUE, 30, 29, 30);
        odds(x, 0, -1, 30, 17, 30);
        Due.is("odds(0, 1, 0, 0)", x.odds(0, 1, 0, 0), NO);
        Due.is("odds(0, 1, 31, 0)", x.odds(0, 1, 31, 0), NO);
        Due.is("odds(0, 1, -1, 0)", x.odds(0, 1, -1, 0), NO);
        Due.is("odds(0, 1, 1, 2)", x.odds(0, 1, 1, 2), NO);
        Due.is("odds(0, 1, 1, -1)", x.odds(0, 1, 1, -1), NO);
        Due.is("odds(3, 1, 1, 0)", x.odds(3, 1, 1, 0), NO);
        Due.is("odds(4, 1, 1, 0)", x.odds(4, 1, 1, 0), NO);
        Due.is("odds(-1, 1, 1, 0)", x.odds(-1, 1, 1, 0), NO);
    }

    private static void promise32OddsBySeeds() {
        OrreryTrains x = workshop();
        // by SEED 48 the first draw is 6
        x.becomes(3, 0, 6);
        odds(x, 2, 48, 1, 1, 1);
        x.becomes(3, 0, 7);
        odds(x, 2, 48, 1, 0, 1);
        x.becomes(3, 0, 0);
        odds(x, 2, 7, 30, 1, 1);
        x.becomes(3, 0, 5);
        odds(x, 2, 7, 30, 14, 15);
        odds(x, 2, -1, 30, 9, 10);
        x.becomes(3, 3, 4);
        odds(x, 2, 7, 30, 13, 15);
        odds(x, 2, 12345, 12, 11, 12);
        odds(x, 2, Integer.MAX_VALUE - 9, 20, 3, 4);
        odds(x, 1, 7, 30, 8, 15);
        odds(x, 1, Integer.MAX_VALUE, 30, 13, 15);
        x.becomes(0, 3, 9);
        x.becomes(1, 3, 9);
        x.becomes(2, 3, 9);
        odds(x, 1, 7, 30, 4, 15);
        odds(x, 1, -1, 30, 2, 15);
        odds(x, 1, 1, 2, 0, 1);
    }

    private static void promise33Plan() {
        OrreryTrains x = new OrreryTrains();
        Due.is("plan(-1, 0)", x.plan(-1, 0), 0);
        Due.is("plan(0, 99)", x.plan(0, 99), 1);
        Due.is("plan(0, -99)", x.plan(0, -99), 2);
        for (int v : new int[] {0, 100, -100, Integer.MIN_VALUE, Integer.MAX_VALUE}) {
            Due.is("plan(0, " + v + ")", x.plan(0, v), -2);
        }
        for (int v : new int[] {-1, 6, Integer.MIN_VALUE, Integer.MAX_VALUE}) {
            Due.is("plan(1, " + v + ")", x.plan(1, v), -2);
        }
        for (int v : new int[] {-1, 10, Integer.MIN_VALUE, Integer.MAX_VALUE}) {
            Due.is("plan(2, " + v + ")", x.plan(2, v), -2);
        }
        Due.is("plan(3, 0)", x.plan(3, 0), -1);
        Due.is("plan(-2, 0)", x.plan(-2, 0), -1);
        Due.is("plan(least, 0)", x.plan(Integer.MIN_VALUE, 0), -1);
        Due.is("plan(1, 0)", x.plan(1, 0), 3);
        Due.is("plan(1, 5)", x.plan(1, 5), 4);
        Due.is("plan(2, 0)", x.plan(2, 0), 5);
        Due.is("plan(2, 9)", x.plan(2, 9), 6);
        Due.is("plan(0, 1)", x.plan(0, 1), 7);
        Due.is("plan(0, -1)", x.plan(0, -1), 8);
        Due.is("plan(0, 1), the ninth", x.plan(0, 1), -4);
        Due.is("plan(0, 0), the ninth", x.plan(0, 0), -2);
        Due.is("plan(3, 0), the ninth", x.plan(3, 0), -1);
        Due.is("count(6)", x.count(6), 8);
        Due.is("plan(-1, 99)", x.plan(-1, 99), 0);
        Due.is("count(6)", x.count(6), 0);
        Due.is("ends(0) of nothing", x.ends(0), 0);
        Due.is("plan(0, 7)", x.plan(0, 7), 1);
        Due.is("ends(0)", x.ends(0), 7);
        Due.is("crank(0)", x.crank(0), 10000);
    }

    private static void promise34Ends() {
        OrreryTrains x = workshop();
        x.body(1, 1);
        x.turn(5);
        x.turn(-2);
        Due.is("ends(0) of nothing", x.ends(0), 3);
        Due.is("ends(11) of nothing", x.ends(11), 12020353);
        x.plan(0, 50);
        x.plan(0, -99);
        x.plan(1, 1);
        x.plan(2, 0);
        Due.is("ends(0)", x.ends(0), -46);
        Due.is("ends(10)", x.ends(10), -137983334);
        Due.is("ends(11)", x.ends(11), -413941819);
        Due.is("ends(12)", x.ends(12), 15333333 - 784);
        Due.is("ends(13)", x.ends(13), NO);
        Due.is("ends(14)", x.ends(14), NO);
        Due.is("ends(15)", x.ends(15), NO);
        for (int what : new int[] {1, -1, 9, 16, Integer.MIN_VALUE, Integer.MAX_VALUE}) {
            Due.is("ends(" + what + ")", x.ends(what), NO);
        }
        Due.is("crank(0) behind ends", x.crank(0), 10003);
        Due.is("stands(1) behind ends", x.stands(1), 12020353);
        Due.is("pair(0, 2) behind ends", x.pair(0, 2), 20);
        Due.is("of(1, 10) behind ends", x.of(1, 10), 2);
        Due.is("count(6) behind ends", x.count(6), 4);
    }

    private static void promise34EndsOfRows() {
        OrreryTrains x = workshop();
        x.turn(2);
        x.plan(1, 5);
        x.plan(2, 9);
        Due.is("ends(10) of what isn't there", x.ends(10), 2666666);
        x.drop(2);
        x.plan(1, 2);
        Due.is("ends(12) without a train", x.ends(12), NO);
        Due.is("ends(10) still", x.ends(10), 2666666);
        x.plan(-1, 0);
        x.plan(2, 1);
        Due.is("ends(10) by changed wheels", x.ends(10), 666666);
        x.plan(2, 1);
        Due.is("ends(10) by wheels changed twice", x.ends(10), 2666666);
        x.plan(0, -1);
        Due.is("ends(10) back", x.ends(10), 1333333 + 15000);
        x.plan(1, 0);
        Due.is("ends(10) back, turned about", x.ends(10), 1333333 + 9444);
        x.plan(1, 0);
        Due.is("ends(10) back, turned about twice", x.ends(10), 1333333 + 15000);
        x.plan(0, 3);
        Due.is("ends(0) on again", x.ends(0), 4);
        Due.is("ends(10) on again", x.ends(10), 5333333);
        Due.is("ends(11) on again", x.ends(11), 16000000);
        x.plan(-1, 0);
        x.drop(0);
        x.plan(1, 0);
        Due.is("ends(11) where a body without a train is turned about", x.ends(11), 8000000);
        Due.is("ends(0) there", x.ends(0), 2);
    }

    private static void promise34EndsHeld() {
        OrreryTrains x = workshop();
        for (int i = 0; i < 101; i++) {
            x.turn(99);
        }
        Due.is("crank(0)", x.crank(0), 19999);
        x.turn(-9);
        x.plan(0, 8);
        Due.is("ends(0) below what holds it", x.ends(0), 9998);
        x.plan(0, 99);
        Due.is("ends(0) held", x.ends(0), 9999);
        Due.is("ends(12) held", x.ends(12), -3333000000L);
        x.plan(0, -5);
        Due.is("ends(0) back from there", x.ends(0), 9994);
        Due.is("ends(12) back from there", x.ends(12), -3331333333L - 784);
        OrreryTrains y = workshop();
        for (int i = 0; i < 101; i++) {
            y.turn(-99);
        }
        y.turn(1);
        y.plan(0, -99);
        Due.is("ends(0) held below", y.ends(0), -9999);
        Due.is("ends(12) held below", y.ends(12), 3333000000L - 784);
        y.plan(0, 3);
        Due.is("ends(0) on from there", y.ends(0), -9996);
        Due.is("ends(12) on from there", y.ends(12), 3332000000L);
    }
}
