import java.util.List;

/** The edges of the answers that all calls have in common, and of how long an object is used. */
final class AnswersEdges {
    private static final long NO = OrreryTrains.NO;
    private static final int LEAST = Integer.MIN_VALUE, MOST = Integer.MAX_VALUE;

    /** Stage.rich() has four bodies, the last without a train. */
    private static final int WITHOUT_TRAIN = 3;

    private AnswersEdges() {
    }

    static void tell() {
        kinds();
        firstNamed();
        changesNothing();
        tape();
        fractions();
        howLong();
    }

    private static void kinds() {
        Edges.answers();
        Edges.edge("NONE (-1) no such number;", () -> {
            Due.is("NONE", OrreryTrains.NONE, -1);
            Due.is("of(0, 0) of nobody", Stage.bare().of(0, 0), -1);
        });
        Edges.edge("BAD (-2) a number is not as told;", () -> {
            Due.is("BAD", OrreryTrains.BAD, -2);
            Due.is("body(0, 1)", Stage.bare().body(0, 1), -2);
        });
        Edges.edge("STATE (-3) as told;", () -> {
            Due.is("STATE", OrreryTrains.STATE, -3);
            Due.is("undo() without an image", Stage.bare().undo(), -3);
        });
        Edges.edge("FULL (-4);", () -> {
            Due.is("FULL", OrreryTrains.FULL, -4);
            Due.is("a seventh body", Stage.full().body(1, 1), -4);
        });
        Edges.edge("NOT (-5) as told;", () -> {
            Due.is("NOT", OrreryTrains.NOT, -5);
            Due.is("no third pair", Stage.rich().of(0, 12), -5);
        });
        Edges.edge("NO: Long.MIN_VALUE.", () -> {
            Due.is("NO", NO, Long.MIN_VALUE);
            Due.is("stands(0) of nobody", Stage.bare().stands(0), Long.MIN_VALUE);
        });
    }

    private static void firstNamed() {
        Edges.answers();
        Edges.edge("the first that a call's words name.", () -> {
            Twins.unchanged(Stage::full, -2, "body", 10000, 1);
            Twins.unchanged(Stage::rich, -1, "ratio", 4, 0, 0);
            Twins.unchanged(Stage::rich, -1, "term", 4, -2);
            Twins.unchanged(Stage::rich, -2, "split", 0, 2, -2);
            Twins.unchanged(Stage::rich, -2, "prime", 0, -2);
            Twins.unchanged(Stage::full, -2, "feed", 0);
            Twins.unchanged(Stage::rich, -1, "becomes", 0, 6, 10);
            Twins.unchanged(Stage::rich, -1, "teeth", 0, 2, 9);
            Twins.unchanged(Stage::rich, -1, "share", WITHOUT_TRAIN, 4);
            Twins.unchanged(Stage::rich, -1, "order", WITHOUT_TRAIN, 1);
            Twins.unchanged(Stage::atGreatestTurn, -2, "turn", 100);
            Twins.unchanged(Stage::rich, -1, "join", 0, 0, 500);
            Twins.unchanged(Stage::rich, -2, "join", 0, WITHOUT_TRAIN, 500);
            Twins.unchanged(Stage::rich, -1, "were", WITHOUT_TRAIN, 3, 0L, 0);
            Twins.unchanged(Stage::full, -1, "plan", 3, 0);
            Twins.unchanged(Stage::full, -2, "plan", 0, 0);
            Twins.unchanged(Stage::rich, -1, "list", 4, 13);
            Twins.unchanged(Stage::rich, -1, "put", 4, 12, 0L);
            Twins.unchanged(Stage::rich, -11, "put", 1, 12, 0L);
        });
    }

    private static void changesNothing() {
        Edges.answers();
        Edges.edge("What is answered so changes nothing;", () -> {
            for (int v : new int[] {LEAST, LEAST + 1, -10000, -1, 10000, MOST - 1, MOST}) {
                refusedEverywhere(v);
            }
        });
        Edges.edge("what is asked changes nothing but THE PAPER.", () -> Twins.same(Stage::rich, "all that asks", x -> {
            askOfBodies(x);
            askOfPlaces(x);
            x.writePair(0);
            x.writeTrain(1);
        }, x -> { }));
        Edges.edge("changes nothing but THE PAPER.", () -> {
            OrreryTrains x = Stage.rich();
            Due.paper(x, "cba");
            Due.is("writePair(3)", x.writePair(3), 8);
            Due.paper(x, "p8 17/51");
            Due.is("what is refused leaves it", x.writePair(4), -1);
            Due.paper(x, "p8 17/51");
        });
    }

    private static void refusedEverywhere(int v) {
        for (String call : List.of("term", "of", "found", "pair", "order")) {
            Twins.unchanged(Stage::rich, -1, call, v, 0);
        }
        for (String call : List.of("turns", "wrong", "backlash", "foundWrong", "drift", "get")) {
            Twins.unchanged(Stage::rich, NO, call, v, 0);
        }
        for (String call : List.of("drop", "train", "writePair", "writeTrain", "judge", "paper", "crank")) {
            Twins.unchanged(Stage::rich, -1, call, v);
        }
        for (String call : List.of("stands", "ends")) {
            Twins.unchanged(Stage::rich, NO, call, v);
        }
        for (String call : List.of("feed", "count")) {
            Twins.unchanged(Stage::rich, -2, call, v);
        }
        if (v < -99 || v > 99) {
            Twins.unchanged(Stage::rich, -2, "turn", v);
        }
    }

    private static void askOfBodies(OrreryTrains x) {
        for (int body = 0; body < 4; body++) {
            x.term(body, 1);
            x.convergent(body, 0, 0);
            x.near(body, 99, 1);
            x.of(body, 11);
            x.turns(body, 0);
            x.wrong(body, 1);
            x.backlash(body, 0);
            x.order(body, 0);
            x.order(body, 11);
            x.found(body, 12);
            x.foundWrong(body, 0);
            x.stands(body);
            x.drift(body, 9999);
            x.were(body, 0, 4015000, 0);
            x.were(body, 1, 4015000, 1);
            x.odds(body, 7, 30, 0);
            x.ends(10 + body);
            x.share(body, 1);
            x.meet(body, 2);
            x.join(body, 0, 0);
        }
    }

    private static void askOfPlaces(OrreryTrains x) {
        x.split(600, 2, -1);
        x.prime(2039, 0);
        x.pair(0, 6);
        x.crank(1);
        x.ends(0);
        x.paper(1);
        for (int list = 0; list < 4; list++) {
            x.judge(list);
            x.get(list, 0);
        }
        for (int what = 0; what < 7; what++) {
            x.count(what);
        }
    }

    private static void tape() {
        Edges.answers();
        Edges.edge("-100 less a FAULT (ahead of FULL);", () -> {
            Twins.unread(Stage::full, "c0 10/99;", -109, "pairs");
            Twins.unread(Stage::full, Stage.SIX + ";", -154, "pairs");
            Twins.unread(Stage::full, "", -100, "pairs");
            Twins.unread(Stage::full, "c0 10/99", -4, "pairs");
        });
        Edges.edge("THE TAPE is empty behind each call that reads it.", () -> {
            OrreryTrains x = Stage.rich();
            Due.is("a TRAIN", x.train(0), 2);
            Due.is("count(4)", x.count(4), 0);
            Due.is("PAIRS", Stage.pairs(x, Stage.SIX), 10);
            Due.is("count(4)", x.count(4), 0);
            Due.is("a FAULT of PAIRS", Stage.pairs(x, "c0 10/9"), -107);
            Due.is("count(4)", x.count(4), 0);
            Due.is("FULL", Stage.pairs(x, Stage.SIX), -4);
            Due.is("count(4)", x.count(4), 0);
            Due.is("a FAULT of a TRAIN", Stage.train(x, 0, "aa"), -101);
            Due.is("count(4)", x.count(4), 0);
            Stage.feed(x, "ab");
            Due.is("no BODY: it isn't read", x.train(4), -1);
            Due.is("count(4)", x.count(4), 2);
        });
    }

    private static void fractions() {
        Edges.answers();
        Edges.edge("Of fractions part 0 is above, 1 below the line (1 or more), in lowest terms", () -> {
            OrreryTrains x = Stage.rich();
            Due.is("turns above", x.turns(0, 0), 4);
            Due.is("turns below", x.turns(0, 1), 3);
            Due.is("wrong above, below 0", x.wrong(0, 0), -1);
            Due.is("wrong below, 1", x.wrong(0, 1), 1);
            Due.is("backlash above", x.backlash(2, 0), 1);
            Due.is("backlash below", x.backlash(2, 1), 1275);
            Due.is("near below, 1", x.near(2, 99, 1), 1);
            Due.is("convergent below, 1", x.convergent(0, 0, 1), 1);
            Due.is("foundWrong below", x.foundWrong(2, 1), 1);
            Due.is("odds below", x.odds(0, 7, 30, 1), 30);
            Due.is("odds below, 1", x.odds(2, 0, 2, 1), 2);
        });
        Edges.edge("(0: 0 by 1);", () -> {
            OrreryTrains x = Stage.byOne(1, 3, "c0 10/30");
            for (String call : List.of("wrong", "backlash")) {
                Due.is(call + " above", Twins.ask(x, call, 0, 0), 0);
                Due.is(call + " below", Twins.ask(x, call, 0, 1), 1);
            }
            Due.is("convergent above", x.convergent(0, 0, 0), 0);
            Due.is("convergent below", x.convergent(0, 0, 1), 1);
            Due.is("near above", x.near(0, 1, 0), 0);
            Due.is("near below", x.near(0, 1, 1), 1);
            x.ratio(0, 2, 3);
            Due.is("foundWrong above", x.foundWrong(0, 0), 0);
            Due.is("foundWrong below", x.foundWrong(0, 1), 1);
            x.becomes(0, 3, 9);
            Due.is("odds above", x.odds(0, 0, 1, 0), 0);
            Due.is("odds below", x.odds(0, 0, 1, 1), 1);
        });
    }

    private static void howLong() {
        Edges.use();
        Edges.edge("An object is used for at most 512 calls after it has been made;", () -> {
            OrreryTrains x = new OrreryTrains();
            for (int call = 1; call <= 512; call++) {
                int v = call % 2 == 0 ? -99 : 98;
                Due.is("call " + call, x.turn(v), 10000 + (call % 2 == 0 ? -call / 2 : 98 - call / 2));
            }
            // 23 calls make it
            OrreryTrains y = Stage.small();
            for (int call = 24; call <= 512; call++) {
                Due.is("call " + call, y.stands(0), 0);
            }
        });
    }
}
