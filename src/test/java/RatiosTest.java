/** Promises 1 to 6: a new object, bodies, ratios. */
public final class RatiosTest {
    private static final long NO = OrreryTrains.NO;

    public static void main(String[] args) {
        promise1NewObject();
        promise2Body();
        promise3Ratio();
        promise4Term();
        promise5Convergent();
        promise6Near();
        promise6NearIsLike();
        Due.end();
    }

    private static void promise1NewObject() {
        Due.is("NONE", OrreryTrains.NONE, -1);
        Due.is("BAD", OrreryTrains.BAD, -2);
        Due.is("STATE", OrreryTrains.STATE, -3);
        Due.is("FULL", OrreryTrains.FULL, -4);
        Due.is("NOT", OrreryTrains.NOT, -5);
        Due.is("NO", OrreryTrains.NO, Long.MIN_VALUE);
        OrreryTrains x = new OrreryTrains();
        for (int what = 0; what <= 6; what++) {
            Due.is("new count(" + what + ")", x.count(what), 0);
        }
        Due.is("new crank(0)", x.crank(0), 10000);
        Due.is("new crank(1)", x.crank(1), 0);
        Due.is("new ends(0)", x.ends(0), 0);
        Due.is("new undo()", x.undo(), -3);
        Due.is("new paper(0)", x.paper(0), -1);
        Due.is("new of(0, 0)", x.of(0, 0), -1);
        Due.is("new pair(0, 0)", x.pair(0, 0), -1);
        for (int list = 0; list < 4; list++) {
            Due.is("new judge(" + list + ")", x.judge(list), -11);
        }
        Due.is("new bounds(20, 30)", x.bounds(20, 30), 2030);
        OrreryTrains other = new OrreryTrains();
        other.body(1, 2);
        Due.is("another object's count(0)", x.count(0), 0);
    }

    private static void promise2Body() {
        OrreryTrains x = new OrreryTrains();
        Due.is("body(0, 1)", x.body(0, 1), -2);
        Due.is("body(1, 0)", x.body(1, 0), -2);
        Due.is("body(10000, 1)", x.body(10000, 1), -2);
        Due.is("body(1, 10000)", x.body(1, 10000), -2);
        Due.is("body(-1, -1)", x.body(-1, -1), -2);
        Due.is("body(least, 1)", x.body(Integer.MIN_VALUE, 1), -2);
        Due.is("body(1, most)", x.body(1, Integer.MAX_VALUE), -2);
        Due.is("count(0)", x.count(0), 0);
        Due.is("body(1, 1)", x.body(1, 1), 0);
        Due.is("body(9999, 9999)", x.body(9999, 9999), 1);
        Due.is("body(9999, 1)", x.body(9999, 1), 2);
        Due.is("body(1, 9999)", x.body(1, 9999), 3);
        Due.is("body(2953, 100)", x.body(2953, 100), 4);
        Due.is("body(223, 235)", x.body(223, 235), 5);
        Due.is("seventh", x.body(1, 1), -4);
        Due.is("seventh, bad", x.body(0, 1), -2);
        Due.is("count(0)", x.count(0), 6);
        Due.is("train of none", x.of(5, 0), 0);
    }

    private static void promise3Ratio() {
        OrreryTrains x = new OrreryTrains();
        Due.is("ratio(0, 1, 1) of none", x.ratio(0, 1, 1), -1);
        Due.is("ratio(0, 0, 1) of none", x.ratio(0, 0, 1), -1);
        x.body(365, 365);
        x.body(9999, 9998);
        Due.is("ratio(0, 10, 4)", x.ratio(0, 10, 4), 10001);
        Due.is("ratio(0, 1, 3)", x.ratio(0, 1, 3), 50002);
        Due.is("ratio(0, 0, 3)", x.ratio(0, 0, 3), -2);
        Due.is("ratio(0, 3, 0)", x.ratio(0, 3, 0), -2);
        Due.is("ratio(0, 10000, 3)", x.ratio(0, 10000, 3), -2);
        Due.is("ratio(0, 3, 10000)", x.ratio(0, 3, 10000), -2);
        Due.is("ratio(-1, 1, 1)", x.ratio(-1, 1, 1), -1);
        Due.is("ratio(2, 1, 1)", x.ratio(2, 1, 1), -1);
        Due.is("ratio(0, 9999, 1)", x.ratio(0, 9999, 1), 10003);
        Due.is("ratio(0, 1, 9999)", x.ratio(0, 1, 9999), 99990001);
        Due.is("ratio(0, 6, 9)", x.ratio(0, 6, 9), 19999);
        Due.is("ratio(0, 6, 9) again", x.ratio(0, 6, 9), 20003);
        Due.is("ratio(1, 1, 1)", x.ratio(1, 1, 1), 99999998);
        Due.is("count(0)", x.count(0), 2);
    }

    private static void terms(OrreryTrains x, int body, int... want) {
        Due.is("how many terms of " + body, x.term(body, -1), want.length);
        for (int i = 0; i < want.length; i++) {
            Due.is("term(" + body + ", " + i + ")", x.term(body, i), want[i]);
        }
        Due.is("term behind the last of " + body, x.term(body, want.length), -5);
        Due.is("term -2 of " + body, x.term(body, -2), -5);
        Due.is("least term of " + body, x.term(body, Integer.MIN_VALUE), -5);
        Due.is("greatest term of " + body, x.term(body, Integer.MAX_VALUE), -5);
    }

    private static void promise4Term() {
        OrreryTrains x = new OrreryTrains();
        Due.is("term(0, 0) of none", x.term(0, 0), -1);
        Due.is("term(0, -2) of none", x.term(0, -2), -1);
        x.body(2953, 100);
        x.body(223, 235);
        x.body(365, 365);
        x.body(6765, 4181);
        x.body(9999, 1);
        x.body(1, 9999);
        terms(x, 0, 29, 1, 1, 7, 1, 5);
        terms(x, 1, 0, 1, 18, 1, 1, 2, 2);
        terms(x, 2, 1);
        terms(x, 3, 1, 1, 1, 1, 1, 1, 1, 1, 1, 1, 1, 1, 1, 1, 1, 1, 1, 2);
        terms(x, 4, 9999);
        terms(x, 5, 0, 9999);
        Due.is("ratio(5, 4181, 6765)", x.ratio(5, 4181, 6765), 19999);
        terms(x, 5, 0, 1, 1, 1, 1, 1, 1, 1, 1, 1, 1, 1, 1, 1, 1, 1, 1, 1, 2);
        Due.is("term(-1, 0)", x.term(-1, 0), -1);
        Due.is("term(6, -1)", x.term(6, -1), -1);
    }

    private static void convergents(OrreryTrains x, int body, long... want) {
        for (int i = 0; i < want.length / 2; i++) {
            Due.is("convergent(" + body + ", " + i + ", 0)", x.convergent(body, i, 0), want[2 * i]);
            Due.is("convergent(" + body + ", " + i + ", 1)", x.convergent(body, i, 1), want[2 * i + 1]);
        }
        Due.is("convergent behind the last of " + body, x.convergent(body, want.length / 2, 0), NO);
        Due.is("convergent ahead of the first of " + body, x.convergent(body, -1, 1), NO);
    }

    private static void promise5Convergent() {
        OrreryTrains x = new OrreryTrains();
        Due.is("convergent(0, 0, 0) of none", x.convergent(0, 0, 0), NO);
        x.body(2953, 100);
        x.body(223, 235);
        x.body(5, 5);
        x.body(1, 9999);
        convergents(x, 0, 29, 1, 30, 1, 59, 2, 443, 15, 502, 17, 2953, 100);
        convergents(x, 1, 0, 1, 1, 1, 18, 19, 19, 20, 37, 39, 93, 98, 223, 235);
        convergents(x, 2, 1, 1);
        convergents(x, 3, 0, 1, 1, 9999);
        x.ratio(2, 6765, 4181);
        Due.is("convergent(2, 16, 0)", x.convergent(2, 16, 0), 2584);
        Due.is("convergent(2, 16, 1)", x.convergent(2, 16, 1), 1597);
        Due.is("convergent(2, 17, 0)", x.convergent(2, 17, 0), 6765);
        Due.is("convergent(2, 17, 1)", x.convergent(2, 17, 1), 4181);
        Due.is("convergent(2, 18, 0)", x.convergent(2, 18, 0), NO);
        x.ratio(2, 20, 8);
        convergents(x, 2, 2, 1, 5, 2);
        Due.is("convergent(0, 0, 2)", x.convergent(0, 0, 2), NO);
        Due.is("convergent(0, 0, -1)", x.convergent(0, 0, -1), NO);
        Due.is("convergent(4, 0, 0)", x.convergent(4, 0, 0), NO);
        Due.is("convergent(-1, 0, 0)", x.convergent(-1, 0, 0), NO);
        Due.is("convergent(0, least, 0)", x.convergent(0, Integer.MIN_VALUE, 0), NO);
        Due.is("convergent(0, greatest, 0)", x.convergent(0, Integer.MAX_VALUE, 0), NO);
    }

    private static void near(OrreryTrains x, int a, int b, int n, long above, long below) {
        x.ratio(0, a, b);
        Due.is("near above of " + a + " by " + b + ", n " + n, x.near(0, n, 0), above);
        Due.is("near below of " + a + " by " + b + ", n " + n, x.near(0, n, 1), below);
    }

    private static void promise6Near() {
        OrreryTrains x = new OrreryTrains();
        Due.is("near(0, 1, 0) of none", x.near(0, 1, 0), NO);
        x.body(1, 1);
        near(x, 2953, 100, 1, 30, 1);
        near(x, 2953, 100, 2, 59, 2);
        near(x, 2953, 100, 16, 443, 15);
        near(x, 2953, 100, 20, 502, 17);
        near(x, 2953, 100, 99, 2451, 83);
        near(x, 223, 235, 10, 9, 10);
        near(x, 223, 235, 19, 18, 19);
        near(x, 223, 235, 20, 19, 20);
        near(x, 223, 235, 98, 93, 98);
        near(x, 9998, 199, 99, 1457, 29);
        near(x, 5, 12, 3, 1, 2);
        near(x, 5, 12, 6, 2, 5);
        near(x, 5, 12, 11, 3, 7);
        near(x, 5, 12, 99, 5, 12);
        near(x, 9999, 1, 99, 9999, 1);
        near(x, 9999, 9998, 99, 1, 1);
        near(x, 1, 9999, 99, 0, 1);
        Due.is("near(0, 0, 0)", x.near(0, 0, 0), NO);
        Due.is("near(0, 100, 0)", x.near(0, 100, 0), NO);
        Due.is("near(0, -1, 1)", x.near(0, -1, 1), NO);
        Due.is("near(0, 1, 2)", x.near(0, 1, 2), NO);
        Due.is("near(0, 1, -1)", x.near(0, 1, -1), NO);
        Due.is("near(1, 1, 0)", x.near(1, 1, 0), NO);
        Due.is("near(-1, 1, 0)", x.near(-1, 1, 0), NO);
    }

    /** Two that differ alike: the least k, then the least h. */
    private static void promise6NearIsLike() {
        OrreryTrains x = new OrreryTrains();
        x.body(1, 1);
        near(x, 1, 2, 1, 0, 1);
        near(x, 7, 2, 1, 3, 1);
        near(x, 9999, 2, 1, 4999, 1);
        near(x, 1, 6, 3, 0, 1);
        near(x, 1, 6, 4, 1, 4);
        near(x, 5, 4, 2, 1, 1);
        near(x, 5, 12, 2, 1, 2);
        near(x, 3, 8, 4, 1, 3);
    }
}
