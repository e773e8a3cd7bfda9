/** Promises 15 to 24: trains, by how much they turn, what they share, the best order, the nearest of all. */
public final class TrainsTest {
    private static final long NO = OrreryTrains.NO;

    public static void main(String[] args) {
        promise15Train();
        promise15Faults();
        promise16Drop();
        promise17Of();
        promise18Turns();
        promise19Wrong();
        promise20Backlash();
        promise21Share();
        promise22Order();
        promise22OrderOfThree();
        promise23Found();
        promise23FoundOfLikeOnes();
        promise23FoundFollows();
        promise24FoundWrong();
        Due.end();
    }

    private static void promise15Train() {
        OrreryTrains x = Due.workshop();
        Due.train(x, 0, "a", 1);
        Due.train(x, 1, "dcb", 3);
        Due.is("of(1, 10)", x.of(1, 10), 3);
        Due.is("of(1, 11)", x.of(1, 11), 2);
        Due.is("of(1, 12)", x.of(1, 12), 1);
        Due.is("of(2, 0)", x.of(2, 0), 0);
        Due.train(x, 1, "ba", 2);
        Due.is("of(1, 10)", x.of(1, 10), 1);
        Due.is("of(1, 11)", x.of(1, 11), 0);
        Due.is("of(1, 12)", x.of(1, 12), -5);
        Due.is("of(0, 10)", x.of(0, 10), 0);
        Due.is("count(2)", x.count(2), 2);
        Due.feed(x, "ab");
        Due.is("train(3)", x.train(3), -1);
        Due.is("train(-1)", x.train(-1), -1);
        Due.is("train(greatest)", x.train(Integer.MAX_VALUE), -1);
        Due.is("count(4)", x.count(4), 2);
        Due.is("train(2)", x.train(2), 2);
        Due.is("count(4)", x.count(4), 0);
    }

    private static void promise15Faults() {
        OrreryTrains x = Due.workshop();
        Due.train(x, 0, "ab", 2);
        Due.is("train(0) of nothing", x.train(0), -100);
        Due.train(x, 0, "e", -100);
        Due.train(x, 0, "A", -100);
        Due.train(x, 0, "`", -100);
        Due.train(x, 0, "c;", -101);
        Due.train(x, 0, "cc", -101);
        Due.train(x, 0, "cdc", -102);
        Due.train(x, 0, "cdd", -102);
        Due.train(x, 0, "cde", -102);
        Due.train(x, 0, "cdab", -103);
        Due.train(x, 0, "cdaa", -103);
        Due.train(x, 0, "cda ", -103);
        Due.train(x, 1, "c5 20/30", -101);
        Due.is("of(0, 0)", x.of(0, 0), 2);
        Due.is("of(0, 10)", x.of(0, 10), 0);
        Due.is("of(0, 11)", x.of(0, 11), 1);
        Due.is("of(1, 0)", x.of(1, 0), 0);
        Due.train(x, 0, "d", 1);
        Due.pairs(x, "c5 20/30", 5);
        Due.train(x, 0, "e", 1);
    }

    private static void promise16Drop() {
        OrreryTrains x = Due.workshop();
        Due.is("drop(3)", x.drop(3), -1);
        Due.is("drop(-1)", x.drop(-1), -1);
        Due.is("drop(0)", x.drop(0), -3);
        Due.train(x, 0, "abc", 3);
        Due.train(x, 1, "a", 1);
        Due.is("drop(0)", x.drop(0), 3);
        Due.is("drop(0) again", x.drop(0), -3);
        Due.is("of(0, 0)", x.of(0, 0), 0);
        Due.is("of(1, 0)", x.of(1, 0), 1);
        Due.is("drop(1)", x.drop(1), 1);
        Due.is("count(2)", x.count(2), 0);
        Due.is("count(0)", x.count(0), 3);
    }

    private static void promise17Of() {
        OrreryTrains x = Due.workshop();
        Due.is("of(0, 0)", x.of(0, 0), 0);
        Due.is("of(0, 1)", x.of(0, 1), 0);
        Due.is("of(0, 10)", x.of(0, 10), -5);
        Due.train(x, 0, "a", 1);
        Due.is("of(0, 0)", x.of(0, 0), 1);
        Due.is("of(0, 1)", x.of(0, 1), 1);
        Due.is("of(0, 10)", x.of(0, 10), 0);
        Due.is("of(0, 11)", x.of(0, 11), -5);
        Due.is("of(0, 12)", x.of(0, 12), -5);
        Due.train(x, 0, "cbd", 3);
        Due.is("of(0, 1)", x.of(0, 1), 0);
        Due.is("of(0, 10)", x.of(0, 10), 2);
        Due.is("of(0, 12)", x.of(0, 12), 3);
        Due.train(x, 0, "dba", 3);
        Due.is("of(0, 1) of three", x.of(0, 1), 1);
        x.becomes(0, 5, 5);
        Due.is("of(0, 1) of two and a crowned one", x.of(0, 1), 0);
        Due.train(x, 0, "c", 1);
        Due.is("of(0, 1) of a crowned one", x.of(0, 1), 0);
        for (int what : new int[] {-1, 2, 9, 13, Integer.MIN_VALUE, Integer.MAX_VALUE}) {
            Due.is("of(0, " + what + ")", x.of(0, what), -1);
        }
        Due.is("of(3, 0)", x.of(3, 0), -1);
        Due.is("of(-1, 0)", x.of(-1, 0), -1);
    }

    private static void turnsBy(OrreryTrains x, int body, long above, long below) {
        Due.is("turns above of " + body, x.turns(body, 0), above);
        Due.is("turns below of " + body, x.turns(body, 1), below);
    }

    private static void promise18Turns() {
        OrreryTrains x = Due.workshop();
        Due.is("turns(0, 0)", x.turns(0, 0), NO);
        Due.train(x, 0, "a", 1);
        turnsBy(x, 0, 2, 3);
        Due.train(x, 0, "ab", 2);
        turnsBy(x, 0, 4, 3);
        Due.train(x, 0, "abc", 3);
        turnsBy(x, 0, 4, 1);
        Due.train(x, 1, "d", 1);
        turnsBy(x, 1, 1, 3);
        x.teeth(0, 0, 31);
        turnsBy(x, 0, 31 * 2 * 3 / 6, 30 / 6);
        Due.pairs(x, "c0 97/98;c0 97/99;c0 89/95", 7);
        Due.train(x, 2, "efg", 3);
        turnsBy(x, 2, 97 * 97 * 89, 98 * 99 * 95);
        Due.is("turns(0, 2)", x.turns(0, 2), NO);
        Due.is("turns(0, -1)", x.turns(0, -1), NO);
        Due.is("turns(3, 0)", x.turns(3, 0), NO);
        Due.is("turns(-1, 0)", x.turns(-1, 0), NO);
    }

    private static void wrongBy(OrreryTrains x, int body, long above, long below) {
        Due.is("wrong above of " + body, x.wrong(body, 0), above);
        Due.is("wrong below of " + body, x.wrong(body, 1), below);
    }

    private static void promise19Wrong() {
        OrreryTrains x = Due.workshop();
        Due.is("wrong(0, 0)", x.wrong(0, 0), NO);
        Due.train(x, 0, "ab", 2);
        wrongBy(x, 0, -1, 1);
        Due.train(x, 0, "cb", 2);
        wrongBy(x, 0, 11, 3);
        x.ratio(0, 6, 1);
        wrongBy(x, 0, 0, 1);
        Due.train(x, 0, "dcb", 3);
        wrongBy(x, 0, -4, 1);
        Due.pairs(x, "c0 97/98;c0 97/99;c0 89/95", 7);
        Due.train(x, 2, "efg", 3);
        x.ratio(2, 9999, 9998);
        wrongBy(x, 2, (97L * 97 * 89 * 9998 - 9999L * 98 * 99 * 95) / 4, 98L * 99 * 95 * 9998 / 4);
        Due.is("wrong(0, 2)", x.wrong(0, 2), NO);
        Due.is("wrong(0, -1)", x.wrong(0, -1), NO);
        Due.is("wrong(3, 0)", x.wrong(3, 0), NO);
    }

    private static void slackBy(OrreryTrains x, int body, long above, long below) {
        Due.is("backlash above of " + body, x.backlash(body, 0), above);
        Due.is("backlash below of " + body, x.backlash(body, 1), below);
    }

    private static void promise20Backlash() {
        OrreryTrains x = Due.workshop();
        Due.is("backlash(0, 0)", x.backlash(0, 0), NO);
        Due.train(x, 0, "a", 1);
        slackBy(x, 0, 1, 600);
        Due.train(x, 0, "ab", 2);
        slackBy(x, 0, 3, 200);
        Due.train(x, 0, "ba", 2);
        // 14 by 1200 times 2 by 3, and 5 by 3000
        slackBy(x, 0, 17, 1800);
        Due.train(x, 0, "abc", 3);
        slackBy(x, 0, 117, 2200);
        Due.train(x, 0, "cba", 3);
        // 9 by 1100 times 4 by 3, 14 by 1200 times 2 by 3, and 5 by 3000
        slackBy(x, 0, 36 * 6 + 17 * 11, 19800);
        x.becomes(0, 0, 0);
        x.becomes(1, 4, 8);
        x.becomes(2, 2, 1);
        slackBy(x, 0, 0, 1);
        x.becomes(0, 3, 9);
        slackBy(x, 0, 24 / 24, 3000 / 24);
        Due.is("backlash(0, 2)", x.backlash(0, 2), NO);
        Due.is("backlash(0, -1)", x.backlash(0, -1), NO);
        Due.is("backlash(3, 0)", x.backlash(3, 0), NO);
        Due.is("backlash(-1, 0)", x.backlash(-1, 0), NO);
    }

    private static void promise21Share() {
        OrreryTrains x = Due.workshop();
        Due.is("share(0, 1)", x.share(0, 1), -3);
        Due.train(x, 0, "abc", 3);
        Due.is("share(0, 1)", x.share(0, 1), -3);
        Due.is("share(1, 0)", x.share(1, 0), -3);
        Due.train(x, 1, "ab", 2);
        Due.is("share(0, 1)", x.share(0, 1), 2);
        Due.is("share(1, 0)", x.share(1, 0), 2);
        Due.train(x, 1, "abd", 3);
        Due.is("share of abc and abd", x.share(0, 1), 2);
        Due.train(x, 1, "acb", 3);
        Due.is("share of abc and acb", x.share(0, 1), 1);
        Due.train(x, 1, "dbc", 3);
        Due.is("share of abc and dbc", x.share(0, 1), 0);
        Due.train(x, 1, "adc", 3);
        Due.is("share of abc and adc", x.share(0, 1), 1);
        Due.train(x, 1, "abc", 3);
        Due.is("share of abc and abc", x.share(0, 1), 3);
        Due.is("share(1, 1)", x.share(1, 1), -1);
        Due.is("share(2, 2)", x.share(2, 2), -1);
        Due.is("share(0, 3)", x.share(0, 3), -1);
        Due.is("share(3, 0)", x.share(3, 0), -1);
        Due.is("share(-1, 0)", x.share(-1, 0), -1);
        Due.is("share(0, -1)", x.share(0, -1), -1);
        Due.is("share(0, 2)", x.share(0, 2), -3);
    }

    private static void bestOrder(OrreryTrains x, int body, int wheels, String want) {
        Due.is("order(" + body + ", 0)", x.order(body, 0), wheels);
        for (int k = 0; k < want.length(); k++) {
            Due.is("order(" + body + ", " + (10 + k) + ")", x.order(body, 10 + k), want.charAt(k) - 'a');
        }
        for (int k = want.length(); k < 3; k++) {
            Due.is("order(" + body + ", " + (10 + k) + ")", x.order(body, 10 + k), -5);
        }
    }

    private static void promise22Order() {
        OrreryTrains x = Due.workshop();
        Due.is("order(0, 0)", x.order(0, 0), -3);
        Due.train(x, 0, "a", 1);
        bestOrder(x, 0, 2, "a");
        Due.train(x, 0, "ab", 2);
        bestOrder(x, 0, 4, "ab");
        Due.train(x, 1, "ba", 2);
        Due.is("count(3)", x.count(3), 8);
        bestOrder(x, 0, 4, "ba");
        bestOrder(x, 1, 4, "ab");
        Due.is("of(0, 10)", x.of(0, 10), 0);
        Due.is("count(3)", x.count(3), 8);
        Due.is("order(0, 1)", x.order(0, 1), -1);
        Due.is("order(0, -1)", x.order(0, -1), -1);
        Due.is("order(0, 9)", x.order(0, 9), -1);
        Due.is("order(0, 13)", x.order(0, 13), -1);
        Due.is("order(3, 0)", x.order(3, 0), -1);
        Due.is("order(-1, 10)", x.order(-1, 10), -1);
        Due.is("order(2, 1)", x.order(2, 1), -1);
    }

    private static void promise22OrderOfThree() {
        OrreryTrains x = Due.workshop();
        Due.train(x, 0, "cba", 3);
        bestOrder(x, 0, 6, "cba");
        Due.train(x, 1, "b", 1);
        bestOrder(x, 0, 6, "bca");
        Due.train(x, 1, "bd", 2);
        bestOrder(x, 0, 8, "bca");
        Due.train(x, 1, "ba", 2);
        bestOrder(x, 0, 6, "bac");
        Due.train(x, 1, "ad", 2);
        bestOrder(x, 0, 8, "acb");
        Due.train(x, 1, "ab", 2);
        bestOrder(x, 0, 6, "abc");
        Due.train(x, 1, "c", 1);
        bestOrder(x, 0, 6, "cba");
        Due.train(x, 1, "ca", 2);
        bestOrder(x, 0, 6, "cab");
        Due.train(x, 2, "ba", 2);
        // as good by the TRAIN of 1 as by that of 2: c comes first of the two as it is now
        bestOrder(x, 0, 10, "cab");
        Due.train(x, 0, "bca", 3);
        bestOrder(x, 0, 10, "bac");
        Due.train(x, 0, "d", 1);
        bestOrder(x, 0, 10, "d");
    }

    private static void found(OrreryTrains x, int body, int pairs, int teeth, int... wheels) {
        Due.is("found(" + body + ", 0)", x.found(body, 0), pairs);
        Due.is("found(" + body + ", 1)", x.found(body, 1), teeth);
        for (int i = 0; i < 4; i++) {
            Due.is("found(" + body + ", " + (10 + i) + ")", x.found(body, 10 + i), i < wheels.length ? wheels[i] : -5);
        }
    }

    private static void promise23Found() {
        OrreryTrains x = new OrreryTrains();
        Due.is("found(0, 0) of none", x.found(0, 0), -1);
        x.body(2953, 100);
        x.body(1, 3);
        x.body(223, 235);
        x.body(3, 2);
        found(x, 0, 2, 100, 30, 20, 30, 20);
        found(x, 1, 2, 100, 20, 30, 20, 30);
        found(x, 3, 1, 50, 30, 20);
        x.bounds(10, 24);
        found(x, 1, 2, 55, 10, 15, 10, 20);
        found(x, 2, 2, 65, 11, 15, 22, 17);
        x.ratio(1, 2, 1);
        found(x, 1, 1, 30, 20, 10);
        x.bounds(20, 30);
        found(x, 1, 2, 99, 28, 20, 30, 21);
        x.ratio(1, 3, 5);
        found(x, 1, 2, 94, 20, 25, 21, 28);
        x.bounds(17, 17);
        found(x, 1, 1, 34, 17, 17);
        x.bounds(85, 99);
        x.ratio(1, 14, 13);
        found(x, 1, 1, 189, 98, 91);
        x.ratio(1, 254, 19);
        found(x, 1, 2, 368, 99, 85, 99, 85);
        x.bounds(30, 44);
        x.ratio(1, 365, 354);
        found(x, 1, 2, 146, 35, 30, 38, 43);
        x.ratio(1, 1, 9999);
        found(x, 1, 2, 148, 30, 44, 30, 44);
        for (int what : new int[] {-1, 2, 9, 14, Integer.MIN_VALUE, Integer.MAX_VALUE}) {
            Due.is("found(1, " + what + ")", x.found(1, what), -1);
        }
        Due.is("found(4, 0)", x.found(4, 0), -1);
        Due.is("found(-1, 12)", x.found(-1, 12), -1);
    }

    private static void foundWithin(OrreryTrains x, int a, int b, int least, int most, int... due) {
        x.ratio(0, a, b);
        x.bounds(least, most);
        int teeth = 0;
        for (int wheel : due) {
            teeth += wheel;
        }
        found(x, 0, due.length / 2, teeth, due);
    }

    private static void promise23FoundOfLikeOnes() {
        OrreryTrains x = new OrreryTrains();
        x.body(1, 1);
        // one PAIR ahead of two, above RATIO and below it
        foundWithin(x, 105, 121, 10, 11, 10, 11);
        foundWithin(x, 231, 200, 10, 11, 11, 10);
        foundWithin(x, 241, 288, 10, 12, 10, 12);
        // fewest teeth
        foundWithin(x, 1, 1, 20, 30, 20, 20);
        foundWithin(x, 21, 22, 10, 11, 10, 10);
        foundWithin(x, 21, 20, 10, 11, 10, 10);
        foundWithin(x, 575, 792, 10, 12, 10, 11, 10, 12);
        foundWithin(x, 723, 550, 10, 12, 11, 10, 12, 10);
        foundWithin(x, 50, 49, 35, 49, 40, 42, 45, 42);
        // the first as a row
        foundWithin(x, 241, 338, 10, 13, 10, 13, 12, 13);
        foundWithin(x, 287, 200, 10, 13, 11, 10, 13, 10);
        foundWithin(x, 3875, 6006, 10, 14, 10, 11, 10, 14);
        foundWithin(x, 391, 637, 10, 15, 10, 13, 12, 15);
    }

    private static void foundOff(OrreryTrains x, int body, long above, long below) {
        Due.is("foundWrong above of " + body, x.foundWrong(body, 0), above);
        Due.is("foundWrong below of " + body, x.foundWrong(body, 1), below);
    }

    /** One of RATIO and BOUNDS alone becomes another between two calls. */
    private static void promise23FoundFollows() {
        OrreryTrains x = new OrreryTrains();
        x.body(1, 1);
        x.body(3, 2);
        found(x, 0, 1, 40, 20, 20);
        found(x, 1, 1, 50, 30, 20);
        found(x, 0, 1, 40, 20, 20);
        x.ratio(0, 2, 1);
        found(x, 0, 2, 99, 28, 20, 30, 21);
        x.ratio(0, 3, 1);
        found(x, 0, 2, 100, 30, 20, 30, 20);
        x.ratio(0, 3, 2);
        found(x, 0, 1, 50, 30, 20);
        x.bounds(20, 29);
        found(x, 0, 2, 89, 24, 20, 25, 20);
        x.bounds(22, 29);
        found(x, 0, 2, 98, 25, 22, 29, 22);
        x.bounds(22, 34);
        found(x, 0, 1, 55, 33, 22);
    }

    private static void promise24FoundWrong() {
        OrreryTrains x = new OrreryTrains();
        Due.is("foundWrong(0, 0) of none", x.foundWrong(0, 0), NO);
        x.body(2953, 100);
        x.body(3, 2);
        x.body(223, 235);
        foundOff(x, 0, -682, 25);
        foundOff(x, 1, 0, 1);
        x.bounds(10, 24);
        foundOff(x, 2, 1, 11985);
        x.ratio(2, 1, 9999);
        foundOff(x, 2, 9253, 53328);
        x.bounds(30, 44);
        x.ratio(2, 365, 354);
        foundOff(x, 2, -1, 15222);
        Due.is("foundWrong(0, 2)", x.foundWrong(0, 2), NO);
        Due.is("foundWrong(0, -1)", x.foundWrong(0, -1), NO);
        Due.is("foundWrong(3, 0)", x.foundWrong(3, 0), NO);
        Due.is("foundWrong(-1, 0)", x.foundWrong(-1, 0), NO);
    }
}
