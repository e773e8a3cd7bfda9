/** The edges of promises 25 to 30: the crank, where bodies stand, when they meet and are joined, their drift. */
final class CrankEdges {
    private static final long NO = OrreryTrains.NO;
    private static final int NONE = -1, BAD = -2, STATE = -3, NOT = -5;
    private static final int LEAST = Integer.MIN_VALUE, MOST = Integer.MAX_VALUE;

    /** Stage.rich() has four bodies, the last without a train. */
    private static final int[] NO_BODY_OF_FOUR = {-1, 4, 5, 6, LEAST, MOST};
    private static final int WITHOUT_TRAIN = 3;

    private CrankEdges() {
    }

    static void tell() {
        promise25();
        promise26();
        promise27();
        promise28();
        promise29();
        promise30();
        termsOfCrank();
        termsOfStanding();
        termsOfMeet();
        termsOfPart();
        termsOfJoin();
        termsOfDrift();
    }

    private static void promise25() {
        Edges.promise(25);
        Edges.edge("THE CRANK goes by v turns (-99 .. 99, not 0;", () -> {
            OrreryTrains x = new OrreryTrains();
            Due.is("turn(99)", x.turn(99), 10099);
            Due.is("turn(-99)", x.turn(-99), 10000);
            Due.is("turn(-99) again", x.turn(-99), 9901);
            Due.is("turn(1)", x.turn(1), 9902);
            Due.is("turn(-1)", x.turn(-1), 9901);
        });
        Edges.edge("on, if v is above 0, else back):", () -> {
            OrreryTrains x = new OrreryTrains();
            x.turn(-1);
            Due.is("behind -1", x.crank(1), 1);
            x.turn(1);
            Due.is("behind 1", x.crank(1), 0);
            x.turn(-99);
            Due.is("behind -99", x.crank(1), 1);
        });
        Edges.edge("TURN then, and 10000.", () -> {
            Due.is("to -9999", Stage.atLeastTurn().crank(0), 1);
            OrreryTrains x = Stage.atLeastTurn();
            Due.is("to -9998", x.turn(1), 2);
            Due.is("to -9999 again", x.turn(-1), 1);
            OrreryTrains y = Stage.atGreatestTurn();
            Due.is("to 9998", y.turn(-1), 19998);
            Due.is("to 9999 again", y.turn(1), 19999);
        });
        Edges.edge("BAD;", () -> {
            for (int v : new int[] {0, 100, -100, 9999, LEAST, LEAST + 1, MOST}) {
                Twins.unchanged(Stage::rich, BAD, "turn", v);
                Twins.unchanged(Stage::atGreatestTurn, BAD, "turn", v);
                Twins.unchanged(Stage::atLeastTurn, BAD, "turn", v);
            }
        });
        Edges.edge("STATE: TURN would not be -9999 .. 9999.", () -> {
            for (int v : new int[] {1, 2, 98, 99}) {
                Twins.unchanged(Stage::atGreatestTurn, STATE, "turn", v);
                Twins.unchanged(Stage::atLeastTurn, STATE, "turn", -v);
            }
            OrreryTrains x = Stage.atGreatestTurn();
            x.turn(-50);
            Due.is("one too far", x.turn(51), STATE);
            Due.is("crank(1) behind it", x.crank(1), 1);
            Due.is("just there", x.turn(50), 19999);
            OrreryTrains y = Stage.atLeastTurn();
            y.turn(50);
            Due.is("one too far back", y.turn(-51), STATE);
            Due.is("crank(1) behind it", y.crank(1), 0);
            Due.is("just there", y.turn(-50), 1);
        });
    }

    private static void promise26() {
        Edges.promise(26);
        Edges.edge("Of THE CRANK what 0 TURN, and 10000,", () -> {
            Twins.unchanged(Stage::bare, 10000, "crank", 0);
            Twins.unchanged(Stage::rich, 10003, "crank", 0);
            Twins.unchanged(Stage::atGreatestTurn, 19999, "crank", 0);
            Twins.unchanged(Stage::atLeastTurn, 1, "crank", 0);
        });
        Edges.edge("1 whether it went back last (1, 0).", () -> {
            Twins.unchanged(Stage::bare, 0, "crank", 1);
            Twins.unchanged(Stage::rich, 1, "crank", 1);
            Twins.unchanged(Stage::atGreatestTurn, 0, "crank", 1);
            Twins.unchanged(Stage::atLeastTurn, 1, "crank", 1);
        });
        Edges.edge("NONE.", () -> {
            for (int what : new int[] {-1, 2, 10, LEAST, MOST}) {
                Twins.unchanged(Stage::rich, NONE, "crank", what);
            }
        });
    }

    private static void promise27() {
        Edges.promise(27);
        Edges.edge("Where a BODY STANDS.", () -> {
            Twins.unchanged(Stage::rich, 4015000, "stands", 0);
            Twins.unchanged(Stage::rich, 12020353, "stands", 1);
            Twins.unchanged(Stage::rich, -1000784, "stands", 2);
        });
        Edges.edge("NO: body;", () -> {
            for (int body : NO_BODY_OF_FOUR) {
                Twins.unchanged(Stage::rich, NO, "stands", body);
            }
            Twins.unchanged(Stage::full, NO, "stands", 6);
        });
        Edges.edge("it has no TRAIN.", () -> {
            Twins.unchanged(Stage::rich, NO, "stands", WITHOUT_TRAIN);
            OrreryTrains x = Stage.small();
            x.drop(0);
            Due.is("behind drop", x.stands(0), NO);
        });
    }

    private static void refusesBodies(String call, long due, Object... behind) {
        for (int body : NO_BODY_OF_FOUR) {
            Twins.unchanged(Stage::rich, due, call, with(body, 0, behind));
            Twins.unchanged(Stage::rich, due, call, with(0, body, behind));
            Twins.unchanged(Stage::rich, due, call, with(body, WITHOUT_TRAIN, behind));
            Twins.unchanged(Stage::rich, due, call, with(WITHOUT_TRAIN, body, behind));
        }
        Twins.unchanged(Stage::full, due, call, with(5, 6, behind));
    }

    private static void refusesOneTwice(String call, long due, Object... behind) {
        Twins.unchanged(Stage::rich, due, call, with(0, 0, behind));
        Twins.unchanged(Stage::rich, due, call, with(WITHOUT_TRAIN, WITHOUT_TRAIN, behind));
        Twins.unchanged(Stage::full, due, call, with(5, 5, behind));
    }

    private static Object[] with(int one, int other, Object... behind) {
        Object[] all = new Object[2 + behind.length];
        all[0] = one;
        all[1] = other;
        System.arraycopy(behind, 0, all, 2, behind.length);
        return all;
    }

    private static void promise28() {
        Edges.promise(28);
        Edges.edge("MEET.", () -> {
            Twins.unchanged(Stage::rich, 3, "meet", 0, 2);
            Twins.unchanged(Stage::rich, 3, "meet", 2, 1);
            Twins.unchanged(Stage::rich, 3, "meet", 1, 0);
        });
        Edges.edge("NO: bodies", () -> refusesBodies("meet", NO));
        Edges.edge("(one twice);", () -> refusesOneTwice("meet", NO));
        Edges.edge("one has no TRAIN.", () -> {
            Twins.unchanged(Stage::rich, NO, "meet", 0, WITHOUT_TRAIN);
            Twins.unchanged(Stage::rich, NO, "meet", WITHOUT_TRAIN, 0);
        });
    }

    private static void promise29() {
        Edges.promise(29);
        Edges.edge("JOIN by d (0 .. 499).", () -> {
            Twins.unchanged(Stage::rich, 3, "join", 0, 2, 0);
            Twins.unchanged(Stage::rich, 3, "join", 0, 2, 332);
            Twins.unchanged(Stage::rich, 1, "join", 0, 2, 334);
            Twins.unchanged(Stage::rich, 1, "join", 0, 2, 499);
        });
        Edges.edge("NONE: bodies", () -> {
            refusesBodies("join", NONE, 0);
            refusesBodies("join", NONE, 500);
        });
        Edges.edge("(one twice);", () -> {
            refusesOneTwice("join", NONE, 0);
            refusesOneTwice("join", NONE, -1);
        });
        Edges.edge("BAD;", () -> {
            for (int d : new int[] {-1, 500, 1000, LEAST, MOST}) {
                Twins.unchanged(Stage::rich, BAD, "join", 0, 1, d);
                Twins.unchanged(Stage::rich, BAD, "join", 0, WITHOUT_TRAIN, d);
            }
        });
        Edges.edge("STATE: one has no TRAIN;", () -> {
            Twins.unchanged(Stage::rich, STATE, "join", 0, WITHOUT_TRAIN, 0);
            Twins.unchanged(Stage::rich, STATE, "join", WITHOUT_TRAIN, 0, 499);
        });
        Edges.edge("NOT: there is no such n.", () -> {
            Twins.unchanged(() -> joiners("c0 10/97", "k0 11/13"), NOT, "join", 0, 1, 0);
            Twins.unchanged(() -> turned(joiners("c0 10/97", "k0 11/13"), 261), NOT, "join", 0, 1, 0);
            Twins.unchanged(() -> turned(joiners("c0 10/97", "k0 11/13"), 262), 999, "join", 0, 1, 0);
        });
    }

    /** Two bodies, each by one pair. */
    private static OrreryTrains joiners(String one, String other) {
        OrreryTrains x = new OrreryTrains();
        x.body(1, 1);
        x.body(1, 1);
        Stage.pairs(x, one + ";" + other);
        Stage.train(x, 0, "a");
        Stage.train(x, 1, "b");
        return x;
    }

    private static OrreryTrains turned(OrreryTrains x, int turn) {
        for (int left = turn; left != 0;) {
            int v = Math.max(-99, Math.min(99, left));
            x.turn(v);
            left -= v;
        }
        return x;
    }

    private static void promise30() {
        Edges.promise(30);
        Edges.edge("DRIFT by n YEARS (0 .. 9999).", () -> {
            Twins.unchanged(Stage::rich, 0, "drift", 2, 0);
            Twins.unchanged(Stage::rich, -666, "drift", 2, 1);
            Twins.unchanged(Stage::rich, -6666000, "drift", 2, 9999);
            Twins.unchanged(Stage::rich, 14998500, "drift", 1, 9999);
        });
        Edges.edge("NO: body", () -> {
            for (int body : NO_BODY_OF_FOUR) {
                Twins.unchanged(Stage::rich, NO, "drift", body, 1);
            }
            Twins.unchanged(Stage::full, NO, "drift", 6, 0);
        });
        Edges.edge("n;", () -> {
            for (int n : new int[] {-1, 10000, LEAST, MOST}) {
                Twins.unchanged(Stage::rich, NO, "drift", 0, n);
            }
        });
        Edges.edge("it has no TRAIN.", () -> {
            Twins.unchanged(Stage::rich, NO, "drift", WITHOUT_TRAIN, 0);
            Twins.unchanged(Stage::rich, NO, "drift", WITHOUT_TRAIN, 9999);
        });
    }

    private static void termsOfCrank() {
        Edges.terms();
        Edges.edge("THE CRANK stands at a TURN (-9999 .. 9999;", () -> {
            Due.is("the greatest", Stage.atGreatestTurn().crank(0), 19999);
            Due.is("more", Stage.atGreatestTurn().turn(1), STATE);
            Due.is("the least", Stage.atLeastTurn().crank(0), 1);
            Due.is("less", Stage.atLeastTurn().turn(-1), STATE);
        });
        Edges.edge("0 at first);", () -> {
            Due.is("crank(0)", new OrreryTrains().crank(0), 10000);
            Due.is("ends(0)", new OrreryTrains().ends(0), 0);
            Due.is("stands(0)", Stage.small().stands(0), 0);
        });
        Edges.edge("it went on last, or back (on at first).", () -> {
            OrreryTrains x = Stage.byOne(1, 1, "k9 33/11");
            Due.is("at first", x.crank(1), 0);
            Due.is("at first no BACKLASH", x.stands(0), 0);
            x.turn(1);
            x.turn(-1);
            Due.is("back", x.crank(1), 1);
            Due.is("back by BACKLASH", x.stands(0), 8181);
            x.turn(-1);
            x.turn(1);
            Due.is("on", x.crank(1), 0);
            Due.is("on again", x.stands(0), 0);
        });
    }

    private static void standsAt(String clauses, int turn, long due) {
        Due.is(clauses + " at " + turn, turned(Stage.by(1, 1, clauses), turn).stands(0), due);
    }

    /** Back to this turn from the one behind it. */
    private static void standsBackAt(String clauses, int turn, long due) {
        OrreryTrains x = turned(Stage.by(1, 1, clauses), turn + 1);
        x.turn(-1);
        Due.is(clauses + " back at " + turn, x.stands(0), due);
    }

    private static void termsOfStanding() {
        Edges.terms();
        Edges.edge("A BODY with a TRAIN STANDS (millionths of a turn) at 1000000 times TURN times p by q", () -> {
            standsAt("k0 20/10", 1, 2000000);
            standsAt("k0 20/10", 99, 198000000);
            standsAt("k0 99/10;k0 99/10;k0 99/10", 9999, 9999L * 970299 * 1000);
            standsBackAt("k0 99/10;k0 99/10;k0 99/10", -9999, -9999L * 970299 * 1000);
            standsAt("k0 10/99;k0 10/99;k0 10/99", 1, 1030);
        });
        Edges.edge("(cut toward 0);", () -> {
            standsAt("k0 20/30", 1, 666666);
            standsAt("k0 20/30", 2, 1333333);
            standsBackAt("k0 20/30", -1, -666666);
            standsBackAt("k0 20/30", -2, -1333333);
            standsAt("c0 20/30", 1, -666666);
            standsBackAt("c0 20/30", -1, 666666);
        });
        Edges.edge("if the crank went back last, BACKLASH times 1000000 (cut) is added;", () -> {
            standsBackAt("k9 33/11", 0, 8181);
            standsBackAt("k9 33/11", 1, 3000000 + 8181);
            standsBackAt("k9 33/11", -1, -3000000 + 8181);
            standsAt("k9 33/11", 1, 3000000);
            // 666666.67 and 3333.33, each cut by itself
            standsBackAt("k0 20/30", 1, 666666);
            standsBackAt("k1 20/30", 1, 666666 + 333);
            standsBackAt("k2 20/30", 1, 666666 + 666);
            standsBackAt("k1 20/30", -1, -666666 + 333);
            standsBackAt("k0 20/30;w9 99/10;k0 98/97", 0, -24247);
        });
        Edges.edge("if the TRAIN is ROUND, all that has the other sign.", () -> {
            standsAt("c9 33/11", 1, -3000000);
            standsBackAt("c9 33/11", 1, -3000000 - 8181);
            standsBackAt("c9 33/11", -1, 3000000 - 8181);
            standsBackAt("c9 33/11", 0, -8181);
            standsAt("c0 33/11", 0, 0);
            standsBackAt("c9 33/11;c0 10/10", 1, 3000000 + 8181);
            standsBackAt("c9 33/11;c0 10/10;c0 10/10", 1, -3000000 - 8181);
        });
    }

    private static void meetIs(String one, String other, long due) {
        Due.is("meet of " + one + " and " + other, joiners(one, other).meet(0, 1), due);
        Due.is("meet of " + other + " and " + one, joiners(other, one).meet(0, 1), due);
    }

    private static void termsOfMeet() {
        Edges.terms();
        Edges.edge("MEET of two BODIES: the fewest turns of the crank (1 or more)", () -> {
            meetIs("c0 20/10", "k0 33/11", 1);
            meetIs("c0 10/10", "c0 10/10", 1);
            Due.is("meet where they stand at a whole turn", turned(joiners("c0 10/20", "c0 10/30"), 6).meet(0, 1), 6);
            Due.is("meet by TURN -1", turned(joiners("c0 10/20", "c0 10/30"), -1).meet(0, 1), 6);
        });
        Edges.edge("by which the TRAINS of both turn whole turns.", () -> {
            meetIs("c0 10/20", "c0 33/11", 2);
            meetIs("c0 10/20", "c0 10/20", 2);
            meetIs("c0 10/20", "c0 10/40", 4);
            meetIs("c0 10/40", "k0 10/60", 12);
            meetIs("c0 12/18", "c0 20/30", 3);
            meetIs("c0 98/99", "c0 97/98", 99 * 98);
            OrreryTrains x = new OrreryTrains();
            x.body(1, 1);
            x.body(1, 1);
            Stage.pairs(x, "c0 10/97;c0 10/89;c0 10/83;c0 11/79;c0 11/73;c0 11/71");
            Stage.train(x, 0, "abc");
            Stage.train(x, 1, "def");
            Due.is("as many turns as may be", x.meet(0, 1), 97L * 89 * 83 * 79 * 73 * 71);
        });
    }

    private static void joinIs(String one, String other, int turn, int d, int due) {
        Due.is("join of " + one + " and " + other + " at " + turn + " by " + d, turned(joiners(one, other), turn).join(0, 1, d), due);
        Due.is("join of " + other + " and " + one + " at " + turn + " by " + d, turned(joiners(other, one), turn).join(0, 1, d), due);
    }

    private static void termsOfPart() {
        Edges.terms();
        Edges.edge("The PART of a BODY at a TURN t: t times p by q,", () -> {
            // against 1 by 1 the PART itself tells how far they are apart
            joinIs("k0 20/30", "k0 10/10", 0, 333, 3);
            joinIs("k0 20/30", "k0 10/10", 0, 334, 1);
            joinIs("k0 10/40", "k0 10/10", 1, 250, 2);
            joinIs("k0 10/40", "k0 10/10", 1, 499, 2);
        });
        Edges.edge("with the other sign if its TRAIN is ROUND,", () -> {
            joinIs("c0 10/30", "k0 10/30", 0, 333, 3);
            joinIs("c0 10/30", "k0 10/30", 0, 334, 1);
            joinIs("c0 10/30", "c0 10/30", 0, 0, 1);
            joinIs("c0 10/30", "k0 20/30", 0, 0, 1);
        });
        Edges.edge("less the greatest whole number that is not above it.", () -> {
            joinIs("k0 40/30", "k0 10/30", 0, 0, 1);
            joinIs("k0 40/30", "c0 20/30", -5, 0, 1);
            joinIs("k0 10/30", "c0 20/30", -2, 0, 1);
            joinIs("c0 99/10", "k0 11/10", -98, 0, 1);
            joinIs("k0 10/30", "k0 10/10", -2, 332, 2);
            joinIs("k0 10/30", "k0 10/10", -4, 0, 1);
        });
    }

    private static void termsOfJoin() {
        Edges.terms();
        Edges.edge("JOIN of two by d: the fewest n (1 .. 999) so that at TURN and n", () -> {
            joinIs("c0 10/20", "c0 10/30", 0, 0, 6);
            joinIs("c0 10/20", "c0 10/30", 5, 0, 1);
            joinIs("c0 10/20", "c0 10/30", 6, 0, 6);
            joinIs("c0 10/20", "c0 10/30", -1, 0, 1);
            joinIs("c0 10/20", "c0 10/30", -6, 0, 6);
            joinIs("c0 10/97", "k0 11/13", 0, 0, NOT);
            joinIs("c0 10/97", "k0 11/13", 261, 0, NOT);
            joinIs("c0 10/97", "k0 11/13", 262, 0, 999);
            joinIs("c0 10/97", "k0 11/13", 1260, 0, 1);
            joinIs("c0 10/97", "k0 11/13", -1, 0, 1);
            joinIs("c0 10/97", "k0 11/13", -999, 0, 999);
            joinIs("c0 10/97", "k0 11/13", -1000, 0, NOT);
            joinIs("k0 10/20", "k0 10/30", 9999, 0, 3);
            joinIs("k0 10/20", "k0 10/30", -9999, 0, 3);
        });
        Edges.edge("their PARTS are apart by d thousandths at most", () -> {
            joinIs("k0 10/20", "k0 10/10", 0, 499, 2);
            joinIs("k0 11/50", "k0 10/10", 0, 220, 1);
            joinIs("k0 11/50", "k0 10/10", 0, 219, 4);
            joinIs("k0 11/50", "k0 10/10", 0, 119, 5);
            joinIs("k0 11/50", "k0 10/10", 0, 0, 50);
        });
        Edges.edge("(by their difference, or 1 less it, whichever is less).", () -> {
            joinIs("k0 39/50", "k0 10/10", 0, 220, 1);
            joinIs("k0 39/50", "k0 10/10", 0, 219, 4);
            joinIs("k0 19/20", "k0 21/20", 0, 100, 1);
            joinIs("k0 19/20", "k0 21/20", 0, 99, 10);
        });
    }

    private static void driftIs(String clauses, int a, int b, int n, long due) {
        Due.is(clauses + " for " + a + " by " + b + ", " + n + " YEARS", Stage.by(a, b, clauses).drift(0, n), due);
    }

    private static void termsOfDrift() {
        Edges.terms();
        Edges.edge("DRIFT by n YEARS: 1000 times n times WRONG", () -> {
            driftIs("c0 20/10", 1, 1, 1, 1000);
            driftIs("c0 20/10", 1, 1, 9999, 9999000);
            driftIs("c0 20/10", 3, 1, 9999, -9999000);
            driftIs("c0 20/10", 2, 1, 9999, 0);
            driftIs("c0 20/10", 9999, 1, 0, 0);
            driftIs("c0 99/10;c0 99/10;c0 99/10", 1, 9999, 9999, 970299L * 9999 - 1000);
        });
        Edges.edge("(cut toward 0).", () -> {
            driftIs("c0 10/30", 1, 1, 1, -666);
            driftIs("c0 10/30", 1, 1, 2, -1333);
            driftIs("c0 50/30", 1, 1, 1, 666);
            driftIs("c0 10/99;c0 10/99;c0 10/99", 9999, 1, 9999, -99979990694L);
            driftIs("c0 10/10", 9999, 9998, 9, 0);
            driftIs("c0 10/10", 9999, 9998, 10, -1);
            driftIs("c0 10/10", 9998, 9999, 9, 0);
            driftIs("c0 10/10", 9998, 9999, 10, 1);
        });
    }
}
