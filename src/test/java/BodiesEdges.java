import java.util.function.Supplier;

/** The edges of promises 1 to 9: a new object, bodies and ratios, numbers split into teeth. */
final class BodiesEdges {
    private static final long NO = OrreryTrains.NO;
    private static final int NONE = -1, BAD = -2, FULL = -4, NOT = -5;
    private static final int LEAST = Integer.MIN_VALUE, MOST = Integer.MAX_VALUE;
    private static final int[] NO_RATIO_PARTS = {0, 10000, -1, -9999, LEAST, MOST};

    private BodiesEdges() {
    }

    static void tell() {
        promise1();
        promise2();
        promise3();
        promise4();
        promise5();
        promise6();
        promise7();
        promise8();
        promise9();
        termsOfBodies();
        termsOfNear();
        termsOfTeeth();
    }

    private static OrreryTrains wished(int a, int b) {
        OrreryTrains x = new OrreryTrains();
        x.body(a, b);
        return x;
    }

    private static void ratioIs(OrreryTrains x, int body, int above, int below) {
        Due.is("RATIO of body " + body, x.ratio(body, above, below), 10000L * above + below);
    }

    private static void promise1() {
        Edges.promise(1);
        Edges.edge("No BODIES", () -> {
            Twins.unchanged(Stage::bare, 0, "count", 0);
            Twins.unchanged(Stage::bare, NONE, "ratio", 0, 1, 1);
            Twins.unchanged(Stage::bare, NONE, "term", 0, -1);
            Twins.unchanged(Stage::bare, NO, "convergent", 0, 0, 0);
            Twins.unchanged(Stage::bare, NO, "near", 0, 1, 0);
            Twins.unchanged(Stage::bare, NONE, "train", 0);
            Twins.unchanged(Stage::bare, NONE, "drop", 0);
            Twins.unchanged(Stage::bare, NONE, "of", 0, 0);
            Twins.unchanged(Stage::bare, NONE, "found", 0, 0);
            Twins.unchanged(Stage::bare, NO, "stands", 0);
            Twins.unchanged(Stage::bare, NO, "ends", 10);
            Due.is("image()", new OrreryTrains().image(), 0);
        });
        Edges.edge("no PAIRS", () -> {
            Twins.unchanged(Stage::bare, 0, "count", 1);
            Twins.unchanged(Stage::bare, NONE, "becomes", 0, 0, 0);
            Twins.unchanged(Stage::bare, NONE, "teeth", 0, 0, 10);
            Twins.unchanged(Stage::bare, NONE, "pair", 0, 0);
            Twins.unchanged(Stage::bare, NONE, "writePair", 0);
            Twins.unread(() -> wished(1, 1), "a", -100, "train", 0);
        });
    }

    private static void promise2() {
        Edges.promise(2);
        Edges.edge("A BODY with RATIO a by b: its number.", () -> {
            OrreryTrains x = new OrreryTrains();
            Due.is("the first", x.body(3, 4), 0);
            Due.is("the second", x.body(5, 4), 1);
            ratioIs(x, 0, 3, 4);
            ratioIs(x, 1, 5, 4);
            Due.is("its train", x.of(1, 0), 0);
            Due.is("count(0)", x.count(0), 2);
        });
        Edges.edge("BAD", () -> {
            for (int v : NO_RATIO_PARTS) {
                Twins.unchanged(Stage::bare, BAD, "body", v, 1);
                Twins.unchanged(Stage::rich, BAD, "body", 1, v);
                Twins.unchanged(Stage::full, BAD, "body", v, 9999);
            }
        });
        Edges.edge("FULL: six", () -> {
            Twins.unchanged(Stage::full, FULL, "body", 1, 1);
            OrreryTrains x = wished(1, 1);
            for (int body = 1; body < 5; body++) {
                x.body(1, 1);
            }
            Due.is("image() of five", x.image(), 5);
            Due.is("the sixth", x.body(1, 2), 5);
            Due.is("the seventh", x.body(1, 3), FULL);
            x.undo();
            Due.is("the sixth again", x.body(1, 4), 5);
            Due.is("the seventh again", x.body(1, 5), FULL);
            ratioIs(x, 5, 1, 4);
        });
    }

    private static void promise3() {
        Edges.promise(3);
        Edges.edge("RATIO of a BODY becomes a by b: 10000 times what was above, and what was below the line.", () -> {
            OrreryTrains x = wished(20, 8);
            x.body(9999, 9998);
            Due.is("lowest terms of 20 by 8", x.ratio(0, 9999, 1), 50002);
            Due.is("the greatest above", x.ratio(0, 1, 9999), 99990001);
            Due.is("the greatest below", x.ratio(0, 9999, 9999), 19999);
            Due.is("9999 by 9999", x.ratio(0, 1, 1), 10001);
            Due.is("both great", x.ratio(1, 1, 1), 99999998);
            Due.is("count(0)", x.count(0), 2);
        });
        Edges.edge("NONE", () -> {
            for (int body : new int[] {-1, 4, 5, 6, LEAST, MOST}) {
                Twins.unchanged(Stage::rich, NONE, "ratio", body, 1, 1);
                Twins.unchanged(Stage::rich, NONE, "ratio", body, 0, 10000);
            }
            Twins.unchanged(Stage::full, NONE, "ratio", 6, 1, 1);
        });
        Edges.edge("BAD", () -> {
            for (int v : NO_RATIO_PARTS) {
                Twins.unchanged(Stage::rich, BAD, "ratio", 0, v, 1);
                Twins.unchanged(Stage::rich, BAD, "ratio", 3, 9999, v);
            }
        });
    }

    private static void promise4() {
        Edges.promise(4);
        Edges.edge("The i-th of the TERMS of a BODY's RATIO (from 0)", () -> {
            Twins.unchanged(Stage::rich, 2, "term", 0, 0);
            Twins.unchanged(Stage::rich, 3, "term", 0, 1);
            Twins.unchanged(Stage::rich, 4, "term", 3, 1);
        });
        Edges.edge("i -1: how many.", () -> {
            Twins.unchanged(Stage::rich, 2, "term", 0, -1);
            Twins.unchanged(Stage::rich, 1, "term", 2, -1);
        });
        Edges.edge("NONE", () -> {
            for (int body : new int[] {-1, 4, 6, LEAST, MOST}) {
                Twins.unchanged(Stage::rich, NONE, "term", body, 0);
                Twins.unchanged(Stage::rich, NONE, "term", body, -1);
                Twins.unchanged(Stage::rich, NONE, "term", body, -2);
            }
            Twins.unchanged(Stage::full, NONE, "term", 6, 0);
        });
        Edges.edge("NOT: there are not so many", () -> {
            for (int i : new int[] {2, 3, 6, MOST}) {
                Twins.unchanged(Stage::rich, NOT, "term", 0, i);
            }
            Twins.unchanged(Stage::rich, NOT, "term", 2, 1);
        });
        Edges.edge("(i below -1, too)", () -> {
            for (int i : new int[] {-2, -3, LEAST}) {
                Twins.unchanged(Stage::rich, NOT, "term", 0, i);
            }
        });
    }

    private static void promise5() {
        Edges.promise(5);
        Edges.edge("The i-th CONVERGENT.", () -> {
            Twins.unchanged(Stage::rich, 2, "convergent", 0, 0, 0);
            Twins.unchanged(Stage::rich, 1, "convergent", 0, 0, 1);
            Twins.unchanged(Stage::rich, 7, "convergent", 0, 1, 0);
            Twins.unchanged(Stage::rich, 3, "convergent", 0, 1, 1);
        });
        Edges.edge("NO: body", () -> {
            for (int body : new int[] {-1, 4, 6, LEAST, MOST}) {
                Twins.unchanged(Stage::rich, NO, "convergent", body, 0, 0);
            }
            Twins.unchanged(Stage::full, NO, "convergent", 6, 0, 1);
        });
        Edges.edge("part", () -> {
            for (int part : new int[] {-1, 2, LEAST, MOST}) {
                Twins.unchanged(Stage::rich, NO, "convergent", 0, 0, part);
            }
        });
        Edges.edge("no such one.", () -> {
            for (int i : new int[] {-1, 2, LEAST, MOST}) {
                Twins.unchanged(Stage::rich, NO, "convergent", 0, i, 0);
                Twins.unchanged(Stage::rich, NO, "convergent", 0, i, 1);
            }
            Twins.unchanged(Stage::rich, NO, "convergent", 2, 1, 0);
        });
    }

    private static void promise6() {
        Edges.promise(6);
        Edges.edge("NEAR by n.", () -> {
            Twins.unchanged(Stage::rich, 9, "near", 3, 4, 0);
            Twins.unchanged(Stage::rich, 4, "near", 3, 4, 1);
            Twins.unchanged(Stage::rich, 7, "near", 3, 3, 0);
            Twins.unchanged(Stage::rich, 3, "near", 3, 3, 1);
        });
        Edges.edge("NO: body", () -> {
            for (int body : new int[] {-1, 4, 6, LEAST, MOST}) {
                Twins.unchanged(Stage::rich, NO, "near", body, 1, 0);
            }
            Twins.unchanged(Stage::full, NO, "near", 6, 1, 1);
        });
        Edges.edge("n", () -> {
            for (int n : new int[] {0, 100, -1, -99, LEAST, MOST}) {
                Twins.unchanged(Stage::rich, NO, "near", 0, n, 0);
                Twins.unchanged(Stage::rich, NO, "near", 0, n, 1);
            }
        });
        Edges.edge("part.", () -> {
            for (int part : new int[] {-1, 2, LEAST, MOST}) {
                Twins.unchanged(Stage::rich, NO, "near", 0, 1, part);
            }
        });
    }

    private static void promise7() {
        Edges.promise(7);
        Edges.edge("BOUNDS become these: 100 times LEAST and MOST that were.", () -> {
            OrreryTrains x = new OrreryTrains();
            Due.is("bounds(10, 10)", x.bounds(10, 10), 2030);
            Due.is("bounds(99, 99)", x.bounds(99, 99), 1010);
            Due.is("bounds(10, 24)", x.bounds(10, 24), 9999);
            Due.is("bounds(85, 99)", x.bounds(85, 99), 1024);
            Due.is("bounds(85, 99) again", x.bounds(85, 99), 8599);
        });
        Edges.edge("BAD.", () -> {
            int[][] bad = {
                {9, 20}, {10, 9}, {99, 98}, {20, 35}, {10, 25}, {86, 101}, {86, 100}, {100, 100}, {9, 9}, {0, 0}, {-1, 5},
                {30, 20}, {LEAST, MOST}, {MOST, LEAST}, {MOST, MOST}, {LEAST, LEAST}, {20, MOST}, {LEAST, 20}, {MOST, 20}};
            for (int[] two : bad) {
                Twins.unchanged(Stage::bare, BAD, "bounds", two[0], two[1]);
                Twins.unchanged(Stage::rich, BAD, "bounds", two[0], two[1]);
            }
        });
    }

    private static void promise8() {
        Supplier<OrreryTrains> from10 = () -> {
            OrreryTrains x = Stage.rich();
            x.bounds(10, 24);
            return x;
        };
        Edges.promise(8);
        Edges.edge("SPLIT of v: i -1: how many ways;", () -> {
            Twins.unchanged(from10, 3, "split", 240, 2, -1);
            Twins.unchanged(from10, 0, "split", 241, 2, -1);
            Twins.unchanged(from10, 1, "split", 24, 1, -1);
            Twins.unchanged(from10, 0, "split", 25, 1, -1);
        });
        Edges.edge("else the i-th (from 0): 100 times the lesser and the greater (m 2)", () -> {
            Twins.unchanged(from10, 1024, "split", 240, 2, 0);
            Twins.unchanged(from10, 1220, "split", 240, 2, 1);
            Twins.unchanged(from10, 1516, "split", 240, 2, 2);
            Twins.unchanged(from10, 1010, "split", 100, 2, 0);
            Twins.unchanged(from10, 2424, "split", 576, 2, 0);
        });
        Edges.edge("v (m 1).", () -> {
            Twins.unchanged(from10, 10, "split", 10, 1, 0);
            Twins.unchanged(from10, 24, "split", 24, 1, 0);
        });
        Edges.edge("BAD: v", () -> {
            for (int v : new int[] {0, 10000, -1, -240, LEAST, MOST}) {
                Twins.unchanged(from10, BAD, "split", v, 1, 0);
                Twins.unchanged(from10, BAD, "split", v, 2, -1);
                Twins.unchanged(from10, BAD, "split", v, 2, -2);
            }
        });
        Edges.edge("m", () -> {
            for (int m : new int[] {0, 3, -1, LEAST, MOST}) {
                Twins.unchanged(from10, BAD, "split", 240, m, 0);
                Twins.unchanged(from10, BAD, "split", 240, m, 99);
            }
        });
        Edges.edge("NOT: there are not so many", () -> {
            for (int i : new int[] {3, 4, MOST}) {
                Twins.unchanged(from10, NOT, "split", 240, 2, i);
            }
            Twins.unchanged(from10, NOT, "split", 24, 1, 1);
            Twins.unchanged(from10, NOT, "split", 25, 1, 0);
            Twins.unchanged(from10, NOT, "split", 241, 2, 0);
        });
        Edges.edge("(i below -1, too)", () -> {
            for (int i : new int[] {-2, -3, LEAST}) {
                Twins.unchanged(from10, NOT, "split", 240, 2, i);
                Twins.unchanged(from10, NOT, "split", 24, 1, i);
            }
        });
    }

    private static void promise9() {
        Edges.promise(9);
        Edges.edge("The i-th of the PRIMES of v (from 0)", () -> {
            Twins.unchanged(Stage::rich, 2, "prime", 12, 0);
            Twins.unchanged(Stage::rich, 2, "prime", 12, 1);
            Twins.unchanged(Stage::rich, 3, "prime", 12, 2);
        });
        Edges.edge("i -1: how many.", () -> {
            Twins.unchanged(Stage::rich, 3, "prime", 12, -1);
            Twins.unchanged(Stage::bare, 10, "prime", 1024, -1);
        });
        Edges.edge("BAD", () -> {
            for (int v : new int[] {0, 2048, -1, -2, LEAST, MOST}) {
                Twins.unchanged(Stage::rich, BAD, "prime", v, 0);
                Twins.unchanged(Stage::rich, BAD, "prime", v, -1);
                Twins.unchanged(Stage::rich, BAD, "prime", v, -2);
            }
        });
        Edges.edge("NOT likewise.", () -> {
            for (int i : new int[] {3, 4, MOST, -2, -3, LEAST}) {
                Twins.unchanged(Stage::rich, NOT, "prime", 12, i);
            }
            Twins.unchanged(Stage::rich, NOT, "prime", 1, 0);
        });
    }

    private static void termsOfBodies() {
        Edges.terms();
        Edges.edge("BODIES 0 .. 5, as they come,", () -> {
            OrreryTrains x = new OrreryTrains();
            for (int body = 0; body < 6; body++) {
                Due.is("of a body that is to come", x.of(body, 0), NONE);
                Due.is("body", x.body(1, body + 1), body);
            }
            for (int body = 0; body < 6; body++) {
                ratioIs(x, body, 1, body + 1);
            }
            Due.is("of(-1, 0)", x.of(-1, 0), NONE);
            Due.is("of(6, 0)", x.of(6, 0), NONE);
        });
        Edges.edge("have a RATIO: a by b (1 .. 9999 each),", () -> {
            int[][] fit = {{1, 1}, {1, 9999}, {9999, 1}, {9998, 9999}, {9999, 9998}};
            for (int[] one : fit) {
                OrreryTrains x = new OrreryTrains();
                Due.is("body of " + one[0] + " by " + one[1], x.body(one[0], one[1]), 0);
                ratioIs(x, 0, one[0], one[1]);
                for (int v : NO_RATIO_PARTS) {
                    Due.is("ratio above " + v, x.ratio(0, v, 1), BAD);
                    Due.is("ratio below " + v, x.ratio(0, 1, v), BAD);
                }
                ratioIs(x, 0, one[0], one[1]);
            }
        });
        Edges.edge("kept in lowest terms.", () -> {
            ratioIs(wished(9999, 9999), 0, 1, 1);
            ratioIs(wished(20, 8), 0, 5, 2);
            ratioIs(wished(8, 20), 0, 2, 5);
            ratioIs(wished(9999, 3), 0, 3333, 1);
            ratioIs(wished(5000, 9999), 0, 5000, 9999);
            OrreryTrains x = wished(1, 1);
            x.ratio(0, 600, 9000);
            ratioIs(x, 0, 1, 15);
        });
        Edges.edge("TERMS of it: the quotient of a by b (cut) is the first;", () -> {
            Due.is("of 7 by 2", wished(7, 2).term(0, 0), 3);
            Due.is("of 1 by 9999", wished(1, 9999).term(0, 0), 0);
            Due.is("of 9999 by 1", wished(9999, 1).term(0, 0), 9999);
            Due.is("of 9999 by 9998", wished(9999, 9998).term(0, 0), 1);
            Due.is("of 9998 by 9999", wished(9998, 9999).term(0, 0), 0);
        });
        Edges.edge("as long as a rest is left, those of what was divided by, by that rest, follow likewise.", () -> {
            Due.is("no rest at once", wished(12, 4).term(0, -1), 1);
            Due.is("no rest at once: the second", wished(12, 4).term(0, 1), NOT);
            Due.is("a rest of 1", wished(7, 2).term(0, -1), 2);
            Due.is("a rest of 1: the last", wished(7, 2).term(0, 1), 2);
            Due.is("as many as can be", wished(4181, 6765).term(0, -1), 19);
            Due.is("the last of as many as can be", wished(4181, 6765).term(0, 18), 2);
            Due.is("the last but one", wished(4181, 6765).term(0, 17), 1);
            Due.is("a great last one", wished(1, 9999).term(0, 1), 9999);
        });
        Edges.edge("The i-th CONVERGENT (from 0): the fraction that the first i and 1 TERMS make (in lowest terms).", () -> {
            OrreryTrains x = wished(4181, 6765);
            Due.is("the first", x.convergent(0, 0, 0), 0);
            Due.is("the first, below", x.convergent(0, 0, 1), 1);
            Due.is("the second", x.convergent(0, 1, 0), 1);
            Due.is("the second, below", x.convergent(0, 1, 1), 1);
            Due.is("the last but one", x.convergent(0, 17, 0), 1597);
            Due.is("the last but one, below", x.convergent(0, 17, 1), 2584);
            Due.is("the last", x.convergent(0, 18, 0), 4181);
            Due.is("the last, below", x.convergent(0, 18, 1), 6765);
            Due.is("one behind the last", x.convergent(0, 19, 0), NO);
            Due.is("the last of 40 by 60", wished(40, 60).convergent(0, 2, 1), 3);
        });
    }

    private static void nearIs(int a, int b, int n, long above, long below) {
        OrreryTrains x = wished(a, b);
        Due.is(a + " by " + b + ", near by " + n, x.near(0, n, 0), above);
        Due.is(a + " by " + b + ", near by " + n + ", below", x.near(0, n, 1), below);
    }

    private static void termsOfNear() {
        Edges.terms();
        Edges.edge("NEAR by n (1 .. 99):", () -> {
            nearIs(1, 99, 1, 0, 1);
            nearIs(1, 99, 98, 1, 98);
            nearIs(1, 99, 99, 1, 99);
            nearIs(98, 99, 98, 97, 98);
            nearIs(98, 99, 99, 98, 99);
            Due.is("near by 0", wished(1, 99).near(0, 0, 0), NO);
            Due.is("near by 100", wished(1, 99).near(0, 100, 0), NO);
        });
        Edges.edge("of all fractions h by k, k 1 .. n, h 0 or more, the one that differs least from RATIO;", () -> {
            nearIs(1, 9999, 99, 0, 1);
            nearIs(1, 197, 99, 1, 99);
            nearIs(1, 199, 99, 0, 1);
            nearIs(9999, 1, 1, 9999, 1);
            nearIs(9998, 99, 98, 9897, 98);
            nearIs(3, 4, 1, 1, 1);
            nearIs(1, 4, 1, 0, 1);
            nearIs(3, 4, 3, 2, 3);
            nearIs(3, 4, 99, 3, 4);
        });
        Edges.edge("of like ones that with the least k, then with the least h.", () -> {
            nearIs(1, 2, 1, 0, 1);
            nearIs(3, 2, 1, 1, 1);
            nearIs(9999, 2, 1, 4999, 1);
            nearIs(1, 4, 2, 0, 1);
            nearIs(3, 4, 2, 1, 1);
            nearIs(1, 198, 99, 0, 1);
            nearIs(1, 1, 99, 1, 1);
        });
    }

    private static void termsOfTeeth() {
        Edges.terms();
        Edges.edge("BOUNDS: LEAST and MOST teeth (10 .. 99;", () -> {
            OrreryTrains x = new OrreryTrains();
            Due.is("below 10", x.bounds(9, 10), BAD);
            Due.is("10", x.bounds(10, 11), 2030);
            Due.is("99", x.bounds(98, 99), 1011);
            Due.is("above 99", x.bounds(99, 100), BAD);
            Due.is("what is left", x.bounds(20, 30), 9899);
        });
        Edges.edge("MOST no less than LEAST, and at most 14 more;", () -> {
            OrreryTrains x = new OrreryTrains();
            Due.is("less", x.bounds(50, 49), BAD);
            Due.is("as many", x.bounds(50, 50), 2030);
            Due.is("14 more", x.bounds(50, 64), 5050);
            Due.is("15 more", x.bounds(50, 65), BAD);
            Due.is("what is left", x.bounds(20, 30), 5064);
        });
        Edges.edge("20 and 30 at first).", () -> {
            Due.is("bounds", new OrreryTrains().bounds(10, 11), 2030);
            OrreryTrains x = wished(1, 1);
            for (int v : new int[] {20, 30}) {
                Due.is("split of " + v, x.split(v, 1, -1), 1);
            }
            for (int v : new int[] {19, 31}) {
                Due.is("split of " + v, x.split(v, 1, -1), 0);
            }
            Due.is("found for 1 by 1", x.found(0, 10), 20);
        });
        Edges.edge("SPLIT of v (1 .. 9999) into m (1, 2) numbers:", () -> {
            OrreryTrains x = new OrreryTrains();
            for (int m = 1; m <= 2; m++) {
                Due.is("of 0", x.split(0, m, -1), BAD);
                Due.is("of 1", x.split(1, m, -1), 0);
                Due.is("of 9999", x.split(9999, m, -1), 0);
                Due.is("of 10000", x.split(10000, m, -1), BAD);
            }
            Due.is("into 0", x.split(400, 0, -1), BAD);
            Due.is("into 3", x.split(8000, 3, -1), BAD);
        });
        Edges.edge("all ways in which v is the product of m numbers, each LEAST .. MOST, the lesser one first; by the lesser ones, rising.",
            BodiesEdges::waysOfSplit);
        Edges.edge("PRIMES of v (1 .. 2047): its prime factors, rising, each as often as it is one", () -> {
            OrreryTrains x = new OrreryTrains();
            Due.is("of 0", x.prime(0, -1), BAD);
            Due.is("of 2", x.prime(2, 0), 2);
            Due.is("how many of 2", x.prime(2, -1), 1);
            Due.is("the greatest prime", x.prime(2039, 0), 2039);
            Due.is("how many of the greatest prime", x.prime(2039, -1), 1);
            Due.is("first of 2047", x.prime(2047, 0), 23);
            Due.is("second of 2047", x.prime(2047, 1), 89);
            Due.is("third of 2047", x.prime(2047, 2), NOT);
            Due.is("of 2048", x.prime(2048, -1), BAD);
            Due.is("tenth of 1024", x.prime(1024, 9), 2);
            Due.is("eleventh of 1024", x.prime(1024, 10), NOT);
            Due.is("fourth of 1936", x.prime(1936, 3), 2);
            Due.is("sixth of 1936", x.prime(1936, 5), 11);
        });
        Edges.edge("(of 1: none).", () -> {
            Due.is("how many", new OrreryTrains().prime(1, -1), 0);
            Due.is("the first", new OrreryTrains().prime(1, 0), NOT);
        });
    }

    private static void waysOfSplit() {
        OrreryTrains x = new OrreryTrains();
        x.bounds(20, 30);
        Due.is("the least product", x.split(400, 2, 0), 2020);
        Due.is("just below", x.split(399, 2, -1), 0);
        Due.is("the greatest product", x.split(900, 2, 0), 3030);
        Due.is("just above", x.split(930, 2, -1), 0);
        Due.is("a lesser one too few", x.split(19 * 30, 2, -1), 0);
        Due.is("a greater one too many", x.split(20 * 31, 2, -1), 0);
        Due.is("a first way", x.split(600, 2, 0), 2030);
        Due.is("a second way", x.split(600, 2, 1), 2425);
        Due.is("two alike come once", x.split(625, 2, -1), 1);
        x.bounds(85, 99);
        Due.is("far up", x.split(9801, 2, 0), 9999);
        Due.is("far up, one way", x.split(9801, 2, -1), 1);
        Due.is("far up, alone", x.split(99, 1, 0), 99);
        Due.is("far up, too few", x.split(84, 1, -1), 0);
    }
}
