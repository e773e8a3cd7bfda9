/** The edges of promises 15 to 24: trains, what they turn by, share and slip, the best order, the nearest of all trains. */
final class TrainsEdges {
    private static final long NO = OrreryTrains.NO;
    private static final int NONE = -1, STATE = -3, NOT = -5;
    private static final int LEAST = Integer.MIN_VALUE, MOST = Integer.MAX_VALUE;

    /** Stage.rich() has four bodies, the last without a train. */
    private static final int[] NO_BODY_OF_FOUR = {-1, 4, 5, 6, LEAST, MOST};
    private static final int[] NO_PARTS = {-1, 2, 3, LEAST, MOST};
    private static final int WITHOUT_TRAIN = 3;

    private TrainsEdges() {
    }

    static void tell() {
        promise15();
        promise16();
        promise17();
        promise18();
        promise19();
        promise20();
        promise21();
        promise22();
        promise23();
        promise24();
        termsOfTrains();
        termsOfTurning();
        termsOfSharing();
        termsOfOrder();
        termsOfFound();
    }

    private static void trainIs(OrreryTrains x, int body, String due) {
        Due.is("of(" + body + ", 0)", x.of(body, 0), due.length());
        for (int k = 0; k < 3; k++) {
            Due.is("of(" + body + ", 1" + k + ")", x.of(body, 10 + k), k < due.length() ? due.charAt(k) - 'a' : NOT);
        }
    }

    private static void promise15() {
        Edges.promise(15);
        Edges.edge("THE TAPE tells the TRAIN of a BODY (in place of one it has): how many PAIRS.", () -> {
            OrreryTrains x = Stage.rich();
            Due.is("what is on the tape", x.train(WITHOUT_TRAIN), 2);
            trainIs(x, WITHOUT_TRAIN, "ba");
            Due.is("three in place of two", Stage.train(x, 0, "dac"), 3);
            trainIs(x, 0, "dac");
            Due.is("one in place of three", Stage.train(x, 0, "b"), 1);
            trainIs(x, 0, "b");
            trainIs(x, 1, "cba");
            trainIs(x, 2, "d");
            Due.is("count(2)", x.count(2), 4);
        });
        Edges.edge("NONE: body (THE TAPE stays);", () -> {
            for (int body : NO_BODY_OF_FOUR) {
                Twins.unchanged(Stage::rich, NONE, "train", body);
            }
            Twins.unchanged(Stage::full, NONE, "train", 6);
            OrreryTrains x = Stage.small();
            Stage.feed(x, "c5 20/30");
            Due.is("train(2)", x.train(2), NONE);
            Due.is("count(4)", x.count(4), 8);
            Due.is("pairs()", x.pairs(), 3);
        });
        Edges.edge("-100 less the FAULT.", () -> {
            for (int body : new int[] {0, WITHOUT_TRAIN}) {
                Twins.unread(Stage::rich, "", -100, "train", body);
                Twins.unread(Stage::rich, "e", -100, "train", body);
                Twins.unread(Stage::rich, "cc", -101, "train", body);
                Twins.unread(Stage::rich, "cdc", -102, "train", body);
                Twins.unread(Stage::rich, "cdba", -103, "train", body);
                Twins.unread(Stage::rich, "c5 20/30", -101, "train", body);
            }
        });
    }

    private static void promise16() {
        Edges.promise(16);
        Edges.edge("A BODY has no TRAIN any more: how many PAIRS it had.", () -> {
            OrreryTrains x = Stage.rich();
            Due.is("two", x.drop(0), 2);
            Due.is("three", x.drop(1), 3);
            Due.is("one", x.drop(2), 1);
            Due.is("count(2)", x.count(2), 0);
            Due.is("count(0)", x.count(0), 4);
            Due.is("count(1)", x.count(1), 4);
            trainIs(x, 1, "");
        });
        Edges.edge("NONE", () -> {
            for (int body : NO_BODY_OF_FOUR) {
                Twins.unchanged(Stage::rich, NONE, "drop", body);
            }
            Twins.unchanged(Stage::full, NONE, "drop", 6);
        });
        Edges.edge("STATE: it has none.", () -> {
            Twins.unchanged(Stage::rich, STATE, "drop", WITHOUT_TRAIN);
            OrreryTrains x = Stage.small();
            Due.is("drop(0)", x.drop(0), 2);
            Due.is("drop(0) again", x.drop(0), STATE);
        });
    }

    private static void promise17() {
        Edges.promise(17);
        Edges.edge("Of a BODY what 0 how many PAIRS its TRAIN has (0: it has none),", () -> {
            int[] due = {2, 3, 1, 0};
            for (int body = 0; body < 4; body++) {
                Twins.unchanged(Stage::rich, due[body], "of", body, 0);
            }
        });
        Edges.edge("1 whether that is ROUND (1, 0),", () -> {
            int[] due = {0, 0, 1, 0};
            for (int body = 0; body < 4; body++) {
                Twins.unchanged(Stage::rich, due[body], "of", body, 1);
            }
        });
        Edges.edge("10 and k the k-th of its PAIRS (k 0 .. 2;", () -> {
            Twins.unchanged(Stage::rich, 2, "of", 1, 10);
            Twins.unchanged(Stage::rich, 1, "of", 1, 11);
            Twins.unchanged(Stage::rich, 0, "of", 1, 12);
        });
        Edges.edge("NOT: there are not so many).", () -> {
            Twins.unchanged(Stage::rich, NOT, "of", 0, 12);
            Twins.unchanged(Stage::rich, NOT, "of", 2, 11);
            Twins.unchanged(Stage::rich, NOT, "of", 2, 12);
            Twins.unchanged(Stage::rich, NOT, "of", WITHOUT_TRAIN, 10);
            Twins.unchanged(Stage::rich, NOT, "of", WITHOUT_TRAIN, 12);
        });
        Edges.edge("NONE.", () -> {
            for (int body : NO_BODY_OF_FOUR) {
                Twins.unchanged(Stage::rich, NONE, "of", body, 0);
                Twins.unchanged(Stage::rich, NONE, "of", body, 12);
            }
            for (int what : new int[] {-1, 2, 9, 13, LEAST, MOST}) {
                Twins.unchanged(Stage::rich, NONE, "of", 1, what);
            }
            Twins.unchanged(Stage::full, NONE, "of", 6, 0);
        });
    }

    /** What the three calls that tell a fraction of a TRAIN refuse alike. */
    private static void refusesBodyAndPart(String call) {
        for (int body : NO_BODY_OF_FOUR) {
            Twins.unchanged(Stage::rich, NO, call, body, 0);
            Twins.unchanged(Stage::rich, NO, call, body, 1);
        }
        Twins.unchanged(Stage::full, NO, call, 6, 0);
        for (int part : NO_PARTS) {
            Twins.unchanged(Stage::rich, NO, call, 0, part);
        }
    }

    private static void refusesWithoutTrain(String call) {
        Twins.unchanged(Stage::rich, NO, call, WITHOUT_TRAIN, 0);
        Twins.unchanged(Stage::rich, NO, call, WITHOUT_TRAIN, 1);
        OrreryTrains x = Stage.small();
        x.drop(0);
        Due.is(call + " behind drop", Twins.ask(x, call, 0, 0), NO);
    }

    private static void promise18() {
        Edges.promise(18);
        Edges.edge("By how much a TRAIN TURNS.", () -> {
            Twins.unchanged(Stage::rich, 4, "turns", 0, 0);
            Twins.unchanged(Stage::rich, 3, "turns", 0, 1);
        });
        Edges.edge("NO: body, part;", () -> refusesBodyAndPart("turns"));
        Edges.edge("it has none.", () -> refusesWithoutTrain("turns"));
    }

    private static void promise19() {
        Edges.promise(19);
        Edges.edge("WRONG (above the line may be below 0).", () -> {
            Twins.unchanged(Stage::rich, -2, "wrong", 2, 0);
            Twins.unchanged(Stage::rich, 3, "wrong", 2, 1);
            Twins.unchanged(Stage::rich, 3, "wrong", 1, 0);
            Twins.unchanged(Stage::rich, 2, "wrong", 1, 1);
        });
        Edges.edge("NO likewise.", () -> {
            refusesBodyAndPart("wrong");
            refusesWithoutTrain("wrong");
        });
    }

    private static void promise20() {
        Edges.promise(20);
        Edges.edge("BACKLASH.", () -> {
            Twins.unchanged(Stage::rich, 3, "backlash", 0, 0);
            Twins.unchanged(Stage::rich, 200, "backlash", 0, 1);
            Twins.unchanged(Stage::rich, 1, "backlash", 2, 0);
            Twins.unchanged(Stage::rich, 1275, "backlash", 2, 1);
        });
        Edges.edge("NO likewise.", () -> {
            refusesBodyAndPart("backlash");
            refusesWithoutTrain("backlash");
        });
    }

    private static void promise21() {
        Edges.promise(21);
        Edges.edge("How many PAIRS the TRAINS of two BODIES SHARE.", () -> {
            Twins.unchanged(Stage::full, 2, "share", 0, 1);
            Twins.unchanged(Stage::full, 2, "share", 1, 0);
            Twins.unchanged(Stage::full, 0, "share", 4, 5);
        });
        Edges.edge("NONE: bodies", () -> {
            for (int body : NO_BODY_OF_FOUR) {
                Twins.unchanged(Stage::rich, NONE, "share", body, 0);
                Twins.unchanged(Stage::rich, NONE, "share", 0, body);
                Twins.unchanged(Stage::rich, NONE, "share", body, WITHOUT_TRAIN);
                Twins.unchanged(Stage::rich, NONE, "share", WITHOUT_TRAIN, body);
            }
        });
        Edges.edge("(one twice);", () -> {
            Twins.unchanged(Stage::rich, NONE, "share", 0, 0);
            Twins.unchanged(Stage::rich, NONE, "share", WITHOUT_TRAIN, WITHOUT_TRAIN);
            Twins.unchanged(Stage::full, NONE, "share", 5, 5);
        });
        Edges.edge("STATE: one has none.", () -> {
            Twins.unchanged(Stage::rich, STATE, "share", 0, WITHOUT_TRAIN);
            Twins.unchanged(Stage::rich, STATE, "share", WITHOUT_TRAIN, 0);
            OrreryTrains x = Stage.small();
            x.drop(0);
            Due.is("both have none", x.share(0, 1), STATE);
        });
    }

    private static void promise22() {
        Edges.promise(22);
        Edges.edge("BEST ORDER of a BODY's TRAIN: what 0 WHEELS then,", () -> {
            Twins.unchanged(Stage::rich, 8, "order", 1, 0);
            Twins.unchanged(Stage::rich, 12, "order", 2, 0);
        });
        Edges.edge("10 and k the k-th PAIR (k 0 .. 2;", () -> {
            Twins.unchanged(Stage::rich, 0, "order", 1, 10);
            Twins.unchanged(Stage::rich, 1, "order", 1, 11);
            Twins.unchanged(Stage::rich, 2, "order", 1, 12);
        });
        Edges.edge("NOT: there are not so many).", () -> {
            Twins.unchanged(Stage::rich, NOT, "order", 0, 12);
            Twins.unchanged(Stage::rich, NOT, "order", 2, 11);
            Twins.unchanged(Stage::rich, NOT, "order", 2, 12);
        });
        Edges.edge("NONE: body", () -> {
            for (int body : NO_BODY_OF_FOUR) {
                Twins.unchanged(Stage::rich, NONE, "order", body, 0);
                Twins.unchanged(Stage::rich, NONE, "order", body, 10);
            }
            Twins.unchanged(Stage::full, NONE, "order", 6, 0);
        });
        Edges.edge("what", () -> {
            for (int what : new int[] {-1, 1, 2, 9, 13, LEAST, MOST}) {
                Twins.unchanged(Stage::rich, NONE, "order", 1, what);
                Twins.unchanged(Stage::rich, NONE, "order", WITHOUT_TRAIN, what);
            }
        });
        Edges.edge("STATE: it has none.", () -> {
            for (int what : new int[] {0, 10, 11, 12}) {
                Twins.unchanged(Stage::rich, STATE, "order", WITHOUT_TRAIN, what);
            }
        });
    }

    private static void promise23() {
        Edges.promise(23);
        Edges.edge("FOUND: what 0 how many PAIRS, 1 teeth in all,", () -> {
            Twins.unchanged(Stage::small, 2, "found", 0, 0);
            Twins.unchanged(Stage::small, 100, "found", 1, 1);
        });
        Edges.edge("10 the DRIVER, 11 the DRIVEN wheel of the first PAIR, 12, 13 those of the second", () -> {
            int[] due = {24, 20, 30, 20};
            for (int wheel = 0; wheel < 4; wheel++) {
                int i = wheel;
                Twins.unchanged(() -> toBeFound(9, 5, 20, 30), due[i], "found", 0, 10 + i);
            }
        });
        Edges.edge("(NOT: there is one alone).", () -> {
            Twins.unchanged(() -> toBeFound(3, 2, 20, 30), 1, "found", 0, 0);
            Twins.unchanged(() -> toBeFound(3, 2, 20, 30), 50, "found", 0, 1);
            Twins.unchanged(() -> toBeFound(3, 2, 20, 30), 30, "found", 0, 10);
            Twins.unchanged(() -> toBeFound(3, 2, 20, 30), 20, "found", 0, 11);
            Twins.unchanged(() -> toBeFound(3, 2, 20, 30), NOT, "found", 0, 12);
            Twins.unchanged(() -> toBeFound(3, 2, 20, 30), NOT, "found", 0, 13);
        });
        Edges.edge("NONE: body", () -> {
            for (int body : NO_BODY_OF_FOUR) {
                Twins.unchanged(Stage::rich, NONE, "found", body, 0);
                Twins.unchanged(Stage::rich, NONE, "found", body, 13);
            }
            Twins.unchanged(Stage::full, NONE, "found", 6, 0);
        });
        Edges.edge("what.", () -> {
            for (int what : new int[] {-1, 2, 9, 14, 15, LEAST, MOST}) {
                Twins.unchanged(Stage::rich, NONE, "found", 0, what);
            }
        });
    }

    private static OrreryTrains toBeFound(int a, int b, int least, int most) {
        OrreryTrains x = new OrreryTrains();
        x.body(a, b);
        x.bounds(least, most);
        return x;
    }

    private static void promise24() {
        Edges.promise(24);
        Edges.edge("What FOUND TURNS by, less RATIO (above the line may be below 0).", () -> {
            // 30 times 30 by 20 times 20 is the greatest that there is
            foundOff(2953, 100, 20, 30, -682, 25);
            foundOff(9999, 1, 20, 30, -39987, 4);
            foundOff(1, 9999, 20, 30, (4 * 1111 - 1) / 3, 9999 / 3);
            foundOff(3, 2, 20, 30, 0, 1);
            foundOff(9999, 1, 99, 99, -9998, 1);
            foundOff(1, 9999, 10, 10, 9998, 9999);
        });
        Edges.edge("NO: body", () -> {
            for (int body : NO_BODY_OF_FOUR) {
                Twins.unchanged(Stage::rich, NO, "foundWrong", body, 0);
            }
            Twins.unchanged(Stage::full, NO, "foundWrong", 6, 1);
        });
        Edges.edge("part.", () -> {
            for (int part : NO_PARTS) {
                Twins.unchanged(Stage::rich, NO, "foundWrong", 0, part);
            }
        });
    }

    private static void foundOff(int a, int b, int least, int most, long above, long below) {
        Twins.unchanged(() -> toBeFound(a, b, least, most), above, "foundWrong", 0, 0);
        Twins.unchanged(() -> toBeFound(a, b, least, most), below, "foundWrong", 0, 1);
    }

    private static void termsOfTrains() {
        Edges.terms();
        Edges.edge("A BODY has a TRAIN or none (at first):", () -> {
            OrreryTrains x = Stage.small();
            x.body(1, 1);
            trainIs(x, 0, "ab");
            trainIs(x, 1, "");
            trainIs(x, 2, "");
            Due.is("count(2)", x.count(2), 1);
        });
        Edges.edge("one to three PAIRS, in order, none twice.", () -> {
            OrreryTrains x = Stage.small();
            Stage.pairs(x, Stage.C_AND_D);
            for (String text : new String[] {"d", "db", "bd", "dba", "abd", "dab"}) {
                Due.is("train of " + text, Stage.train(x, 1, text), text.length());
                trainIs(x, 1, text);
            }
            Due.is("train of none", Stage.train(x, 1, ""), -100);
            Due.is("train of four", Stage.train(x, 1, "abcd"), -103);
            Due.is("train of one twice", Stage.train(x, 1, "dad"), -102);
            trainIs(x, 1, "dab");
        });
        Edges.edge("All that is told of it is as PAIRS are when it is asked.", () -> {
            OrreryTrains x = Stage.small();
            x.turn(1);
            x.turn(-2);
            Due.is("STANDS", x.stands(0), -1333333 + 15000);
            x.teeth(0, 0, 10);
            x.teeth(1, 1, 99);
            x.becomes(1, 5, 0);
            turnsBy(x, 8, 99);
            fraction(x, "wrong", 8 * 3 - 7 * 99, 297);
            fraction(x, "backlash", 5 * 24, 100 * 30 * 99);
            Due.is("ROUND", x.of(0, 1), 1);
            Due.is("STANDS", x.stands(0), 80808 - 404);
        });
    }

    /** The three calls' two parts; above and below may be told in other than lowest terms. */
    private static void fraction(OrreryTrains x, String call, long above, long below) {
        long common = Math.abs(above);
        for (long rest = below; rest != 0;) {
            long next = common % rest;
            common = rest;
            rest = next;
        }
        Due.is(call + " above", Twins.ask(x, call, 0, 0), above / common);
        Due.is(call + " below", Twins.ask(x, call, 0, 1), below / common);
    }

    private static void turnsBy(OrreryTrains x, long above, long below) {
        fraction(x, "turns", above, below);
    }

    private static void termsOfTurning() {
        Edges.terms();
        Edges.edge("It TURNS by p by q: p the product of its DRIVERS, q that of its DRIVENS.", () -> {
            turnsBy(Stage.byOne(1, 1, "c0 10/99"), 10, 99);
            turnsBy(Stage.byOne(1, 1, "c0 99/10"), 99, 10);
            turnsBy(Stage.byOne(1, 1, "c0 50/50"), 1, 1);
            turnsBy(Stage.by(1, 1, "c0 10/99;k0 10/99"), 100, 9801);
            turnsBy(Stage.by(1, 1, "c0 10/99;k0 10/99;c0 10/99"), 1000, 970299);
            turnsBy(Stage.by(1, 1, "c0 99/10;k0 99/10;c0 99/10"), 970299, 1000);
            turnsBy(Stage.by(1, 1, "c0 10/99;k0 99/98;c0 98/10"), 1, 1);
        });
        Edges.edge("It is ROUND, if an odd number of its PAIRS turn the way ROUND.", () -> {
            String[] clauses = {"k0 10/99", "c0 10/99", "k0 10/99;c0 10/99", "c0 10/99;f0 10/99", "k0 10/99;k0 10/99",
                "c0 10/99;w0 10/99;s0 10/99", "c0 10/99;k0 10/99;p0 10/99", "k0 10/99;k0 10/99;p0 10/99", "k0 10/99;k0 10/99;k0 10/99"};
            int[] due = {0, 1, 1, 0, 0, 1, 0, 1, 0};
            for (int i = 0; i < due.length; i++) {
                Due.is(clauses[i], Stage.by(1, 1, clauses[i]).of(0, 1), due[i]);
            }
        });
        Edges.edge("WRONG: p by q less RATIO.", () -> {
            fraction(Stage.byOne(1, 9999, "c0 10/99"), "wrong", 10L * 9999 - 99, 99L * 9999);
            fraction(Stage.byOne(10, 99, "c0 10/99"), "wrong", 0, 1);
            fraction(Stage.byOne(9999, 1, "k0 10/99"), "wrong", 10 - 9999 * 99, 99);
            fraction(Stage.by(9999, 9998, "c0 99/10;k0 99/10;c0 99/10"), "wrong", 970299L * 9998 - 9999 * 1000, 9998000);
            fraction(Stage.by(9998, 9999, "c0 11/98;k0 13/97;c0 17/95"), "wrong", 2431L * 9999 - 9998L * 903070, 903070L * 9999);
        });
        Edges.edge("BACKLASH: for each PAIR PLAY by (100 times its DRIVEN),", () -> {
            fraction(Stage.byOne(1, 1, "c1 10/99"), "backlash", 1, 9900);
            fraction(Stage.byOne(1, 1, "w9 99/10"), "backlash", 24, 1000);
            fraction(Stage.byOne(1, 1, "k9 33/11"), "backlash", 9, 1100);
            fraction(Stage.byOne(1, 1, "c0 33/11"), "backlash", 0, 1);
            fraction(Stage.byOne(1, 1, "p1 33/11"), "backlash", 0, 1);
            fraction(Stage.byOne(1, 1, "s8 33/11"), "backlash", 0, 1);
        });
        Edges.edge("times the product of the DRIVERS of all PAIRS behind it in the TRAIN, by that of their DRIVENS;", () -> {
            fraction(Stage.by(1, 1, "c1 50/99;c0 10/11"), "backlash", 10, 9900 * 11);
            fraction(Stage.by(1, 1, "c0 50/99;c1 10/11"), "backlash", 1, 1100);
            fraction(Stage.by(1, 1, "c1 50/99;c0 10/11;c0 13/17"), "backlash", 130, 9900 * 187);
            fraction(Stage.by(1, 1, "c0 50/99;c1 10/11;c0 13/17"), "backlash", 13, 1100 * 17);
            fraction(Stage.by(1, 1, "c0 50/99;c0 10/11;c1 13/17"), "backlash", 1, 1700);
        });
        Edges.edge("all of these together.", () -> {
            fraction(Stage.by(1, 1, "c5 20/30;w4 24/12"), "backlash", 3, 200);
            fraction(Stage.by(1, 1, "w4 24/12;c5 20/30"), "backlash", 17, 1800);
            fraction(Stage.by(1, 1, "w9 99/10;w9 99/10;w9 99/10"), "backlash", 24 * (100 + 990 + 9801), 100000);
            fraction(Stage.by(1, 1, "c1 10/97;c1 10/98;c1 10/99"), "backlash", 100 + 10 * 97 + 97 * 98, 100L * 97 * 98 * 99);
        });
    }

    private static OrreryTrains withTrains(String... texts) {
        OrreryTrains x = new OrreryTrains();
        Stage.pairs(x, Stage.SIX);
        for (int body = 0; body < texts.length; body++) {
            x.body(1, 1);
            Stage.train(x, body, texts[body]);
        }
        return x;
    }

    private static void termsOfSharing() {
        Edges.terms();
        Edges.edge("Two TRAINS SHARE as many PAIRS as they have alike from the first one on, one behind the other", () -> {
            Due.is("none", withTrains("abc", "def").share(0, 1), 0);
            Due.is("the first", withTrains("abc", "aef").share(0, 1), 1);
            Due.is("all but the last", withTrains("abc", "abf").share(0, 1), 2);
            Due.is("all", withTrains("abc", "abc").share(0, 1), 3);
            Due.is("all of the shorter one", withTrains("ab", "abc").share(0, 1), 2);
            Due.is("all of the shorter one, told last", withTrains("abc", "a").share(0, 1), 1);
            Due.is("all of two of one", withTrains("f", "f").share(0, 1), 1);
        });
        Edges.edge("(the same PAIRS at the same places).", () -> {
            Due.is("alike behind another first one", withTrains("abc", "dbc").share(0, 1), 0);
            Due.is("alike behind another second one", withTrains("abc", "adc").share(0, 1), 1);
            Due.is("at other places", withTrains("abc", "bca").share(0, 1), 0);
            Due.is("at other places behind the first", withTrains("abc", "acb").share(0, 1), 1);
            OrreryTrains x = new OrreryTrains();
            x.body(1, 1);
            x.body(1, 1);
            Stage.pairs(x, "c0 10/99;c0 10/99");
            Stage.train(x, 0, "a");
            Stage.train(x, 1, "b");
            Due.is("PAIRS with as many teeth that are two", x.share(0, 1), 0);
        });
        Edges.edge("WHEELS: two for each PAIR of each TRAIN,", () -> {
            Due.is("of none", withTrains().count(3), 0);
            Due.is("of a body without", withTrains("").count(3), 0);
            Due.is("of one", withTrains("a").count(3), 2);
            Due.is("of three", withTrains("abc").count(3), 6);
            Due.is("of two trains", withTrains("abc", "def").count(3), 12);
            Due.is("of one PAIR at other places", withTrains("abc", "da", "eba").count(3), 16);
        });
        Edges.edge("but what TRAINS SHARE counts once.", () -> {
            Due.is("of the same twice", withTrains("abc", "abc").count(3), 6);
            Due.is("of six alike", withTrains("abc", "abc", "abc", "abc", "abc", "abc").count(3), 6);
            Due.is("of one within another", withTrains("a", "ab", "abc").count(3), 6);
            Due.is("of one within another, told last", withTrains("abc", "ab", "a").count(3), 6);
            Due.is("of all but the last", withTrains("abc", "abd", "abe", "abf").count(3), 12);
            Due.is("shared by the first and the last", withTrains("abc", "def", "abf").count(3), 14);
            Due.is("shared by two and two", withTrains("abc", "def", "abf", "dea").count(3), 16);
            Due.is("shared by more than are told first", withTrains("a", "abc", "abd").count(3), 8);
            OrreryTrains x = withTrains("abc", "abd", "ab");
            x.drop(0);
            Due.is("behind drop", x.count(3), 6);
        });
    }

    private static void orderIs(OrreryTrains x, int body, int wheels, String due) {
        Due.is("order(" + body + ", 0)", x.order(body, 0), wheels);
        for (int k = 0; k < 3; k++) {
            Due.is("order(" + body + ", 1" + k + ")", x.order(body, 10 + k), k < due.length() ? due.charAt(k) - 'a' : NOT);
        }
    }

    private static void termsOfOrder() {
        Edges.terms();
        Edges.edge("BEST ORDER of a TRAIN: of all orders of its PAIRS the one by which, were it the TRAIN, WHEELS of all TRAINS were fewest;",
            () -> {
                String[] due = {"abc", "acb", "bac", "bca", "cab", "cba"};
                for (String best : due) {
                    for (String now : due) {
                        orderIs(withTrains(now, best), 0, 6, best);
                        orderIs(withTrains(best.substring(0, 2) + "d", now), 1, 8, best);
                    }
                    orderIs(withTrains("def", best, "abc"), 2, 12, best);
                }
                orderIs(withTrains("ab", "ba"), 0, 4, "ba");
                orderIs(withTrains("ab", "bac"), 0, 6, "ba");
                orderIs(withTrains("a", "bac"), 0, 8, "a");
            });
        Edges.edge("of like ones the first by the places at which its PAIRS are now (as it is now ahead of all others).", () -> {
            orderIs(withTrains("abc"), 0, 6, "abc");
            orderIs(withTrains("cba"), 0, 6, "cba");
            orderIs(withTrains("bac", "def"), 0, 12, "bac");
            orderIs(withTrains("fe", "abc"), 0, 10, "fe");
            orderIs(withTrains("abc", "c"), 0, 6, "cab");
            orderIs(withTrains("bac", "c"), 0, 6, "cba");
            orderIs(withTrains("abc", "b", "c"), 0, 8, "bac");
            orderIs(withTrains("acb", "b", "c"), 0, 8, "cab");
            orderIs(withTrains("cab", "ba", "ac"), 0, 10, "acb");
            OrreryTrains x = withTrains("cab", "ba");
            orderIs(x, 0, 6, "bac");
            trainIs(x, 0, "cab");
            Due.is("WHEELS as they are", x.count(3), 10);
        });
    }

    private static void foundIs(int a, int b, int least, int most, int... due) {
        OrreryTrains x = toBeFound(a, b, least, most);
        String told = a + " by " + b + " within " + least + ", " + most + ": ";
        int teeth = 0;
        for (int wheel : due) {
            teeth += wheel;
        }
        Due.is(told + "how many PAIRS", x.found(0, 0), due.length / 2);
        Due.is(told + "teeth", x.found(0, 1), teeth);
        for (int i = 0; i < 4; i++) {
            Due.is(told + "wheel " + i, x.found(0, 10 + i), i < due.length ? due[i] : NOT);
        }
    }

    /** One of a, b, LEAST and MOST alone becomes another between two calls; each tells another count of teeth. */
    private static void foundFollows() {
        OrreryTrains x = toBeFound(3, 2, 20, 30);
        Due.is("3 by 2", x.found(0, 1), 50);
        x.ratio(0, 1, 2);
        Due.is("1 by 2", x.found(0, 1), 99);
        x.ratio(0, 1, 1);
        Due.is("1 by 1", x.found(0, 1), 40);
        x.bounds(21, 30);
        Due.is("from 21", x.found(0, 1), 42);
        x.ratio(0, 3, 2);
        Due.is("3 by 2 from 21", x.found(0, 1), 100);
        x.bounds(21, 33);
        Due.is("3 by 2 to 33", x.found(0, 1), 55);
        x.bounds(20, 30);
        x.ratio(0, 9999, 1);
        Due.is("far beyond all trains", x.found(0, 1), 100);
    }

    private static void termsOfFound() {
        Edges.terms();
        Edges.edge("FOUND for a BODY: of all trains of one or two PAIRS, all teeth LEAST .. MOST,", () -> {
            foundIs(9999, 1, 10, 10, 10, 10);
            foundIs(9999, 1, 99, 99, 99, 99);
            foundIs(9999, 1, 10, 11, 11, 10, 11, 10);
            foundIs(9999, 1, 10, 24, 24, 10, 24, 10);
            foundIs(1, 9999, 85, 99, 85, 99, 85, 99);
            foundIs(99, 85, 85, 99, 99, 85);
            foundIs(85, 99, 85, 99, 85, 99);
            foundFollows();
        });
        Edges.edge("the one whose product of DRIVERS by product of DRIVENS differs least from RATIO;", () -> {
            foundIs(2953, 100, 20, 30, 30, 20, 30, 20);
            foundIs(223, 235, 10, 24, 11, 15, 22, 17);
            foundIs(365, 354, 30, 44, 35, 30, 38, 43);
            foundIs(3, 5, 20, 30, 20, 25, 21, 28);
        });
        Edges.edge("of like ones one of fewer PAIRS;", () -> {
            foundIs(1, 1, 20, 30, 20, 20);
            foundIs(3, 2, 20, 30, 30, 20);
            foundIs(2, 1, 10, 24, 20, 10);
            foundIs(105, 121, 10, 11, 10, 11);
            foundIs(231, 200, 10, 11, 11, 10);
        });
        Edges.edge("then of fewest teeth in all;", () -> {
            foundIs(14, 13, 85, 99, 98, 91);
            foundIs(10, 11, 10, 24, 10, 11);
            foundIs(1, 3, 10, 24, 10, 15, 10, 20);
            foundIs(50, 49, 35, 49, 40, 42, 45, 42);
            foundIs(575, 792, 10, 12, 10, 11, 10, 12);
            foundIs(723, 550, 10, 12, 11, 10, 12, 10);
        });
        Edges.edge("then the first as a row: the lesser DRIVER,", () -> {
            foundIs(241, 338, 10, 13, 10, 13, 12, 13);
            foundIs(287, 200, 10, 13, 11, 10, 13, 10);
        });
        Edges.edge("the greater,", () -> {
            foundIs(6531, 7744, 10, 22, 12, 11, 17, 22);
            foundIs(4049, 6831, 10, 23, 10, 11, 15, 23);
        });
        Edges.edge("the lesser DRIVEN, the greater.", () -> {
            foundIs(3875, 6006, 10, 14, 10, 11, 10, 14);
            foundIs(391, 637, 10, 15, 10, 13, 12, 15);
            foundIs(4301, 7644, 10, 15, 10, 13, 11, 15);
        });
        Edges.edge("The lesser DRIVER and the lesser DRIVEN are told as the first PAIR.", () -> {
            OrreryTrains x = toBeFound(1, 3, 10, 24);
            Due.is("the lesser DRIVER", x.found(0, 10), 10);
            Due.is("the lesser DRIVEN", x.found(0, 11), 15);
            Due.is("the greater DRIVER", x.found(0, 12), 10);
            Due.is("the greater DRIVEN", x.found(0, 13), 20);
            foundIs(9, 5, 20, 30, 24, 20, 30, 20);
        });
    }
}
