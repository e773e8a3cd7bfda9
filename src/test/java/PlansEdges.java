/** The edges of promises 31 to 34: teeth that were, odds by draws, plans and where they end. */
final class PlansEdges {
    private static final long NO = OrreryTrains.NO;
    private static final int NONE = -1, BAD = -2, STATE = -3, FULL = -4, NOT = -5;
    private static final int LEAST = Integer.MIN_VALUE, MOST = Integer.MAX_VALUE;

    /** Stage.rich() has four bodies, the last without a train. */
    private static final int[] NO_BODY_OF_FOUR = {-1, 4, 5, 6, LEAST, MOST};
    private static final int WITHOUT_TRAIN = 3;

    private PlansEdges() {
    }

    static void tell() {
        promise31();
        promise32();
        promise33();
        promise34();
        termsOfWere();
        termsOfDraws();
        termsOfOdds();
        termsOfPlan();
        termsOfRows();
    }

    private static void promise31() {
        Edges.promise(31);
        Edges.edge("WERE: what 0 how many numbers,", () -> {
            Twins.unchanged(Stage::rich, 1, "were", 0, 0, 4015000L, 0);
            Twins.unchanged(Stage::rich, 0, "were", 0, 0, 4015001L, 0);
            Twins.unchanged(Stage::small, 90, "were", 0, 1, 0L, 0);
        });
        Edges.edge("1 the least", () -> {
            Twins.unchanged(Stage::rich, 20, "were", 0, 0, 4015000L, 1);
            Twins.unchanged(Stage::rich, 24, "were", 0, 1, 4015000L, 1);
            Twins.unchanged(Stage::rich, 17, "were", 2, 0, -1000784L, 1);
            Twins.unchanged(Stage::small, 10, "were", 0, 1, 0L, 1);
        });
        Edges.edge("(NOT: there is none).", () -> {
            for (long v : new long[] {4015001, 4014999, -4015000, 0, Long.MIN_VALUE, Long.MAX_VALUE}) {
                Twins.unchanged(Stage::rich, NOT, "were", 0, 0, v, 1);
                Twins.unchanged(Stage::rich, 0, "were", 0, 0, v, 0);
            }
        });
        Edges.edge("NONE: body,", () -> {
            for (int body : NO_BODY_OF_FOUR) {
                Twins.unchanged(Stage::rich, NONE, "were", body, 0, 0L, 0);
            }
            Twins.unchanged(Stage::full, NONE, "were", 6, 0, 0L, 1);
        });
        Edges.edge("k (0 .. 2),", () -> {
            for (int k : new int[] {-1, 3, 4, LEAST, MOST}) {
                Twins.unchanged(Stage::rich, NONE, "were", 1, k, 0L, 0);
                Twins.unchanged(Stage::rich, NONE, "were", WITHOUT_TRAIN, k, 0L, 1);
            }
        });
        Edges.edge("what;", () -> {
            for (int what : new int[] {-1, 2, 10, LEAST, MOST}) {
                Twins.unchanged(Stage::rich, NONE, "were", 1, 0, 0L, what);
                Twins.unchanged(Stage::rich, NONE, "were", WITHOUT_TRAIN, 0, 0L, what);
            }
        });
        Edges.edge("STATE: it has no TRAIN,", () -> {
            for (int k = 0; k < 3; k++) {
                Twins.unchanged(Stage::rich, STATE, "were", WITHOUT_TRAIN, k, 0L, 0);
                Twins.unchanged(Stage::rich, STATE, "were", WITHOUT_TRAIN, k, 0L, 1);
            }
        });
        Edges.edge("or that has not so many PAIRS.", () -> {
            Twins.unchanged(Stage::rich, STATE, "were", 0, 2, 4015000L, 0);
            Twins.unchanged(Stage::rich, STATE, "were", 2, 1, -1000784L, 1);
            Twins.unchanged(Stage::rich, STATE, "were", 2, 2, -1000784L, 0);
        });
    }

    private static void promise32() {
        Edges.promise(32);
        Edges.edge("ODDS.", () -> {
            Twins.unchanged(Stage::rich, 17, "odds", 0, 7, 30, 0);
            Twins.unchanged(Stage::rich, 30, "odds", 0, 7, 30, 1);
        });
        Edges.edge("NO: body,", () -> {
            for (int body : NO_BODY_OF_FOUR) {
                Twins.unchanged(Stage::rich, NO, "odds", body, 0, 1, 0);
            }
            Twins.unchanged(Stage::full, NO, "odds", 6, 0, 1, 1);
        });
        Edges.edge("m,", () -> {
            for (int m : new int[] {0, 31, -1, -30, LEAST, MOST}) {
                Twins.unchanged(Stage::rich, NO, "odds", 0, 7, m, 0);
                Twins.unchanged(Stage::rich, NO, "odds", 0, 7, m, 1);
            }
        });
        Edges.edge("part;", () -> {
            for (int part : new int[] {-1, 2, LEAST, MOST}) {
                Twins.unchanged(Stage::rich, NO, "odds", 0, 7, 30, part);
            }
        });
        Edges.edge("it has no TRAIN.", () -> {
            Twins.unchanged(Stage::rich, NO, "odds", WITHOUT_TRAIN, 0, 1, 0);
            Twins.unchanged(Stage::rich, NO, "odds", WITHOUT_TRAIN, 7, 30, 1);
        });
    }

    private static void promise33() {
        Edges.promise(33);
        Edges.edge("A ROW comes to the PLAN: how many there are", () -> {
            OrreryTrains x = new OrreryTrains();
            for (int rows = 1; rows <= 8; rows++) {
                Due.is("plan", x.plan(0, rows), rows);
                Due.is("count(6)", x.count(6), rows);
                Due.is("ends(0)", x.ends(0), rows * (rows + 1) / 2);
            }
        });
        Edges.edge("(what -1: it is empty then, 0, whatever the other is).", () -> {
            for (int v : new int[] {0, 5, 100, -100, LEAST, MOST}) {
                Twins.unchanged(Stage::bare, 0, "plan", -1, v);
                OrreryTrains x = Stage.full();
                Due.is("plan(-1, " + v + ")", x.plan(-1, v), 0);
                Due.is("count(6)", x.count(6), 0);
                Due.is("ends(0)", x.ends(0), 0);
                Due.is("plan(0, 9)", x.plan(0, 9), 1);
                Due.is("ends(0)", x.ends(0), 9);
            }
        });
        Edges.edge("NONE: what;", () -> {
            for (int what : new int[] {-2, 3, 10, LEAST, MOST}) {
                Twins.unchanged(Stage::rich, NONE, "plan", what, 1);
                Twins.unchanged(Stage::rich, NONE, "plan", what, 100);
                Twins.unchanged(Stage::full, NONE, "plan", what, 0);
            }
        });
        Edges.edge("BAD: v (by 0 -99 .. 99, not 0;", () -> {
            badRows(0, 0, -100, 100, LEAST, MOST);
            fitRows(0, -99, -1, 1, 99);
        });
        Edges.edge("by 1 0 .. 5;", () -> {
            badRows(1, -1, 6, 9, LEAST, MOST);
            fitRows(1, 0, 1, 4, 5);
        });
        Edges.edge("by 2 0 .. 9);", () -> {
            badRows(2, -1, 10, 99, LEAST, MOST);
            fitRows(2, 0, 1, 8, 9);
        });
        Edges.edge("FULL.", () -> {
            for (int what = 0; what < 3; what++) {
                Twins.unchanged(Stage::full, FULL, "plan", what, 1);
            }
        });
    }

    private static void badRows(int what, int... vs) {
        for (int v : vs) {
            Twins.unchanged(Stage::bare, BAD, "plan", what, v);
            Twins.unchanged(Stage::rich, BAD, "plan", what, v);
            Twins.unchanged(Stage::full, BAD, "plan", what, v);
        }
    }

    private static void fitRows(int what, int... vs) {
        OrreryTrains x = new OrreryTrains();
        for (int i = 0; i < vs.length; i++) {
            Due.is("plan(" + what + ", " + vs[i] + ")", x.plan(what, vs[i]), i + 1);
        }
    }

    private static void promise34() {
        Edges.promise(34);
        Edges.edge("ENDS: what 0 TURN,", () -> {
            Twins.unchanged(Stage::bare, 0, "ends", 0);
            Twins.unchanged(Stage::rich, 53, "ends", 0);
            Twins.unchanged(Stage::full, 1 + 4 + 2, "ends", 0);
        });
        Edges.edge("10 and b where BODY b STANDS (b 0 .. 5).", () -> {
            // TURN 53, the first by 30 to 20 times 24 to 12, the second too, behind 33 to 11
            Twins.unchanged(Stage::rich, 53L * 3000000, "ends", 10);
            Twins.unchanged(Stage::rich, 53L * 9000000, "ends", 11);
            Twins.unchanged(Stage::rich, -17666666, "ends", 12);
            Twins.unchanged(() -> {
                OrreryTrains x = Stage.full();
                x.plan(-1, 0);
                x.plan(0, 1);
                return x;
            }, -372019, "ends", 15);
        });
        Edges.edge("NO: what;", () -> {
            for (int what : new int[] {-1, 1, 2, 3, 9, 16, 17, LEAST, MOST}) {
                Twins.unchanged(Stage::full, NO, "ends", what);
            }
        });
        Edges.edge("the BODY isn't there,", () -> {
            Twins.unchanged(Stage::rich, NO, "ends", 14);
            Twins.unchanged(Stage::rich, NO, "ends", 15);
            Twins.unchanged(Stage::bare, NO, "ends", 10);
        });
        Edges.edge("or has no TRAIN.", () -> {
            Twins.unchanged(Stage::rich, NO, "ends", 10 + WITHOUT_TRAIN);
            OrreryTrains x = Stage.full();
            x.drop(5);
            Due.is("ends(15)", x.ends(15), NO);
        });
    }

    private static void wereAt(OrreryTrains x, int k, long v, int many, int least) {
        Due.is("were(0, " + k + ", " + v + ", 0)", x.were(0, k, v, 0), many);
        Due.is("were(0, " + k + ", " + v + ", 1)", x.were(0, k, v, 1), least);
    }

    private static void termsOfWere() {
        Edges.terms();
        Edges.edge("WERE: numbers 10 .. 99", () -> {
            OrreryTrains x = Stage.byOne(1, 1, "k0 50/50");
            wereAt(x, 0, 0, 90, 10);
            x.turn(1);
            wereAt(x, 0, 180000, 0, NOT);
            wereAt(x, 0, 200000, 1, 10);
            wereAt(x, 0, 1980000, 1, 99);
            wereAt(x, 0, 2000000, 0, NOT);
        });
        Edges.edge("by which, were they the DRIVER of the k-th PAIR of a TRAIN,", () -> {
            OrreryTrains x = Stage.by(1, 1, "k0 11/50;k0 13/50;k0 17/50");
            x.turn(5);
            long stands = 1000000L * 5 * 11 * 13 * 17 / 125000;
            wereAt(x, 0, stands, 1, 11);
            wereAt(x, 1, stands, 1, 13);
            wereAt(x, 2, stands, 1, 17);
            wereAt(x, 0, 1000000L * 5 * 99 * 13 * 17 / 125000, 1, 99);
            wereAt(x, 2, 1000000L * 5 * 11 * 13 * 10 / 125000, 1, 10);
        });
        Edges.edge("the BODY would STAND at just v now.", () -> {
            // it went back last: 1 by 9900 times z by 99 times 10 by 99, in millionths, cut, and three turn ROUND
            OrreryTrains x = Stage.by(1, 1, "c1 10/99;c0 50/99;c0 10/99");
            x.turn(1);
            x.turn(-1);
            wereAt(x, 1, 0, 0, NOT);
            wereAt(x, 1, -1, 10, 10);
            wereAt(x, 1, 1, 0, NOT);
            wereAt(x, 1, -5, 10, 49);
            wereAt(x, 1, -10, 2, 98);
            wereAt(x, 1, -11, 0, NOT);
            wereAt(x, 0, -5, 90, 10);
            OrreryTrains y = Stage.byOne(1, 1, "c0 20/30");
            y.turn(2);
            wereAt(y, 0, -1333333, 1, 20);
            wereAt(y, 0, 1333333, 0, NOT);
            wereAt(y, 0, -1333334, 0, NOT);
        });
    }

    /** Over one SEED alone: whether the TRAIN holds, that is no PAIR of it SLIPS. */
    private static void holds(String clauses, int seed, boolean due) {
        OrreryTrains x = Stage.by(1, 1, clauses);
        Due.is(clauses + " by SEED " + seed, x.odds(0, seed, 1, 0), due ? 1 : 0);
        Due.is(clauses + " by SEED " + seed + ", below the line", x.odds(0, seed, 1, 1), 1);
    }

    private static void termsOfDraws() {
        Edges.terms();
        // (z >>> 16) % 100 of the first three draws: by SEED 17 7, 20, 25; by 23 1, 99, 80; by 48 6, 81, 91; by 0 0, 36, 56
        Edges.edge("DRAWN by a SEED: PAIR by PAIR of a TRAIN, in order, z becomes z * 1103515245 + 12345", () -> {
            holds("c0 10/99;c8 10/99", 17, true);
            holds("w4 10/99;c8 10/99", 17, false);
            holds("c8 10/99;w4 10/99", 17, false);
            holds("c7 10/99;w7 10/99", 17, true);
            holds("c7 10/99;w8 10/99", 17, false);
            holds("c7 10/99;w7 10/99;w9 10/99", 17, true);
            holds("c0 10/99;c0 10/99;w9 10/99", 1, false);
            holds("c0 10/99;c0 10/99;f9 10/99", 1, true);
            OrreryTrains x = Stage.by(1, 1, "c7 10/99;w8 10/99");
            Stage.train(x, 0, "a");
            Due.is("a PAIR that the TRAIN has no more", x.odds(0, 17, 1, 0), 1);
            x.body(1, 1);
            Stage.train(x, 1, "b");
            Due.is("a PAIR of another TRAIN", x.odds(0, 17, 1, 0), 1);
        });
        Edges.edge("(an int; SEED at first);", () -> {
            holds("c1 10/99", 0, false);
            holds("c6 10/99", -2147483647, true);
            holds("c7 10/99", -2147483647, false);
            holds("w9 10/99", LEAST, true);
            holds("w9 10/99", MOST, true);
            holds("f9 10/99;c9 10/99", -1, true);
            holds("f9 10/99;f7 10/99", -1, false);
            holds("c0 10/99;c0 10/99;c4 10/99", -2, true);
            holds("c0 10/99;c0 10/99;c5 10/99", -2, false);
        });
        Edges.edge("the PAIR SLIPS, if (z >>> 16) % 100 is below PLAY.", () -> {
            holds("c0 10/99", 0, true);
            holds("c6 10/99", 48, true);
            holds("c7 10/99", 48, false);
            holds("k6 10/99", 48, true);
            holds("k7 10/99", 48, false);
            holds("f3 10/99", 48, true);
            holds("f4 10/99", 48, false);
            holds("w0 10/99", 48, true);
            holds("w1 10/99", 48, false);
            // here z is below 0
            holds("c1 10/99", 23, true);
            holds("c2 10/99", 23, false);
            holds("c0 10/99", 54, true);
            holds("c1 10/99", 54, false);
        });
    }

    private static void oddsAre(String clauses, int seed, int m, long above, long below) {
        OrreryTrains x = Stage.by(1, 1, clauses);
        Due.is(clauses + ", " + m + " SEEDS from " + seed, x.odds(0, seed, m, 0), above);
        Due.is(clauses + ", " + m + " SEEDS from " + seed + ", below the line", x.odds(0, seed, m, 1), below);
    }

    private static void termsOfOdds() {
        Edges.terms();
        Edges.edge("ODDS: of m SEEDS (1 .. 30), SEED and each 1 more", () -> {
            oddsAre("c1 10/99", 0, 1, 0, 1);
            oddsAre("c1 10/99", 1, 1, 1, 1);
            oddsAre("c1 10/99", 0, 2, 1, 2);
            oddsAre("c1 10/99", -1, 2, 1, 2);
            oddsAre("c1 10/99", -1, 1, 1, 1);
            oddsAre("c1 10/99", 0, 30, 29, 30);
            oddsAre("c1 10/99", -29, 30, 29, 30);
            oddsAre("c1 10/99", -30, 30, 1, 1);
            oddsAre("c1 10/99", 25, 29, 1, 1);
            oddsAre("c1 10/99", 25, 30, 29, 30);
        });
        Edges.edge("(an int),", () -> {
            // by 2147483646 27, by 2147483647 29, then by -2147483648 68, by -2147483647 6
            oddsAre("c7 10/99", MOST - 1, 3, 1, 1);
            oddsAre("c7 10/99", MOST - 1, 4, 3, 4);
            oddsAre("c7 10/99", MOST, 3, 2, 3);
            oddsAre("c6 10/99", MOST, 3, 1, 1);
            oddsAre("c7 10/99", LEAST, 2, 1, 2);
        });
        Edges.edge("those by which no PAIR SLIPS.", () -> {
            // by 22 62 and 9, by 23 1 and 99, by 24 3 and 90
            oddsAre("c0 10/99;c0 10/99", 22, 3, 1, 1);
            oddsAre("c2 10/99;c0 10/99", 22, 3, 2, 3);
            oddsAre("c4 10/99;c0 10/99", 22, 3, 1, 3);
            oddsAre("c4 10/99;f7 10/99", 22, 3, 0, 1);
            oddsAre("c0 10/99;f7 10/99", 22, 3, 2, 3);
        });
    }

    private static OrreryTrains planned(OrreryTrains x, int... rows) {
        for (int i = 0; i + 1 < rows.length; i += 2) {
            x.plan(rows[i], rows[i + 1]);
        }
        return x;
    }

    /** Where the first body of Stage.small(), by 20 to 30 and 24 to 12, ends. */
    private static void endsAt(OrreryTrains x, long turn, long stands) {
        Due.is("ends(0)", x.ends(0), turn);
        Due.is("ends(10)", x.ends(10), stands);
    }

    private static void termsOfPlan() {
        Edges.terms();
        Edges.edge("A PLAN: ROWS told by hand (8 at most): what and v, done in thought:", () -> {
            OrreryTrains x = planned(Stage.small(), 0, 3, 2, 0, 1, 0, 0, 1, 0, 1, 0, 1, 0, 1, 0, 1);
            Due.is("count(6)", x.count(6), 8);
            Due.is("a ninth", x.plan(0, 50), FULL);
            endsAt(x, 8, 24000000);
            Due.is("the crank", x.crank(0), 10000);
            Due.is("the train", x.of(0, 10), 0);
            Due.is("the wheels", x.pair(0, 2), 20);
            Due.is("the place", x.stands(0), 0);
        });
        Edges.edge("0 the crank goes by v (on, if v is above 0, else back;", () -> {
            endsAt(planned(Stage.small(), 0, 3), 3, 4000000);
            endsAt(planned(Stage.small(), 0, -3), -3, -4000000 + 15000);
            endsAt(planned(Stage.small(), 0, 4, 0, -1), 3, 4000000 + 15000);
            endsAt(planned(Stage.small(), 0, -1, 0, 4), 3, 4000000);
            OrreryTrains x = Stage.small();
            x.turn(-3);
            endsAt(planned(x, 2, 9), -3, -4000000 + 15000);
            endsAt(planned(x, 0, 3), 0, 0);
        });
        Edges.edge("TURN is held within -9999 .. 9999);", () -> {
            endsAt(planned(Stage.atGreatestTurn(), 0, 1), 9999, 13332000000L);
            endsAt(planned(Stage.atGreatestTurn(), 0, 99, 0, -99), 9900, 13200000000L + 15000);
            endsAt(planned(Stage.atGreatestTurn(), 0, -99, 0, 99), 9999, 13332000000L);
            endsAt(planned(Stage.atGreatestTurn(), 0, -98, 0, 99, 0, -1), 9998, 13330666666L + 15000);
            endsAt(planned(Stage.atLeastTurn(), 0, -1), -9999, -13332000000L + 15000);
            endsAt(planned(Stage.atLeastTurn(), 0, -99, 0, 99), -9900, -13200000000L);
            endsAt(planned(Stage.atLeastTurn(), 0, 98, 0, -99, 0, 1), -9998, -13330666666L);
        });
        Edges.edge("1 the TRAIN of BODY v is turned about (the last PAIR first);", () -> {
            // only BACKLASH tells the order: 3 by 200, and 17 by 1800 when turned about
            endsAt(planned(Stage.small(), 1, 0, 0, -3), -3, -4000000 + 9444);
            endsAt(planned(Stage.small(), 1, 0, 1, 0, 0, -3), -3, -4000000 + 15000);
            endsAt(planned(Stage.byOne(1, 1, "k9 33/11"), 1, 0, 0, -3), -3, -9000000 + 8181);
            // 9 by 1700, times 13 by 19 and 10 by 11 if it is the first one, as it stands if it is the last one
            endsAt(planned(Stage.by(1, 1, "k9 10/17;k0 13/19;k0 10/11"), 0, 1, 0, -1), 0, 3292);
            endsAt(planned(Stage.by(1, 1, "k9 10/17;k0 13/19;k0 10/11"), 0, 1, 0, -1, 1, 0), 0, 5294);
            endsAt(planned(Stage.by(1, 1, "k0 13/19;k9 10/17;k0 10/11"), 0, 1, 0, -1, 1, 0), 0, 3622);
        });
        Edges.edge("2 PAIR v changes its wheels (each has the teeth that the other one had).", () -> {
            endsAt(planned(Stage.small(), 0, 3, 2, 0), 3, 9000000);
            endsAt(planned(Stage.small(), 2, 1, 0, 3), 3, 1000000);
            endsAt(planned(Stage.small(), 2, 1, 2, 1, 0, 3), 3, 4000000);
            endsAt(planned(Stage.small(), 2, 0, 2, 1, 0, 4), 4, 3000000);
            // 5 by 2000 times 12 by 24, and 14 by 2400
            endsAt(planned(Stage.small(), 2, 0, 2, 1, 0, 4, 0, -4), 0, 7083);
        });
    }

    private static void termsOfRows() {
        Edges.terms();
        Edges.edge("A ROW whose BODY or PAIR isn't there,", () -> {
            endsAt(planned(Stage.small(), 1, 2, 1, 5, 0, -3), -3, -4000000 + 15000);
            endsAt(planned(Stage.small(), 2, 2, 2, 9, 0, -3), -3, -4000000 + 15000);
            Due.is("without any", planned(new OrreryTrains(), 1, 0, 2, 0, 0, 7).ends(0), 7);
        });
        Edges.edge("or whose BODY has no TRAIN, does nothing.", () -> {
            endsAt(planned(Stage.small(), 1, 1, 0, -3), -3, -4000000 + 15000);
            OrreryTrains x = Stage.small();
            Stage.train(x, 1, "ba");
            x.drop(1);
            endsAt(planned(x, 1, 1, 0, -3), -3, -4000000 + 15000);
            Due.is("ends(11)", x.ends(11), NO);
        });
        Edges.edge("ENDS: as it is behind all of it.", () -> {
            OrreryTrains x = Stage.small();
            x.turn(6);
            endsAt(x, 6, 8000000);
            endsAt(planned(x, 0, -3), 3, 4000000 + 15000);
            endsAt(planned(x, 2, 0), 3, 9000000 + 16666);
            endsAt(planned(x, 1, 0), 3, 9000000 + 20000);
            x.becomes(0, 5, 5);
            endsAt(x, 3, -9000000 - 20000);
            x.plan(-1, 0);
            endsAt(x, 6, -8000000);
        });
    }
}
