/** Promises 35 to 37: pairs and trains written, the paper. */
public final class WrittenTest {
    public static void main(String[] args) {
        promise35WritePair();
        promise36WriteTrain();
        promise37Paper();
        Due.end();
    }

    private static void promise35WritePair() {
        OrreryTrains x = new OrreryTrains();
        Due.is("writePair(0) of none", x.writePair(0), -1);
        String text = "c0 10/99;f1 11/98;p2 20/30;w3 45/67;s8 99/10;k9 89/76";
        Due.pairs(x, text, 6);
        String[] clauses = text.split(";");
        for (int pair = 0; pair < 6; pair++) {
            Due.is("writePair(" + pair + ")", x.writePair(pair), 8);
            Due.paper(x, clauses[pair]);
        }
        x.becomes(2, 4, 7);
        x.teeth(2, 0, 31);
        x.teeth(2, 1, 13);
        Due.is("writePair(2)", x.writePair(2), 8);
        Due.paper(x, "s7 31/13");
        Due.is("writePair(6)", x.writePair(6), -1);
        Due.is("writePair(-1)", x.writePair(-1), -1);
        Due.paper(x, "s7 31/13");
    }

    private static void promise36WriteTrain() {
        OrreryTrains x = new OrreryTrains();
        Due.is("writeTrain(0) of none", x.writeTrain(0), -1);
        x.body(1, 1);
        x.body(1, 1);
        Due.pairs(x, "c0 10/99;f1 11/98;p2 20/30;w3 45/67;s8 99/10;k9 89/76", 6);
        Due.pairs(x, "c0 10/99;f1 11/98;p2 20/30;w3 45/67", 10);
        Due.is("writeTrain(0)", x.writeTrain(0), -3);
        Due.train(x, 0, "jaf", 3);
        Due.is("writeTrain(0)", x.writeTrain(0), 3);
        Due.paper(x, "jaf");
        Due.train(x, 1, "ba", 2);
        Due.is("writeTrain(1)", x.writeTrain(1), 2);
        Due.paper(x, "ba");
        x.drop(1);
        Due.is("writeTrain(1)", x.writeTrain(1), -3);
        Due.is("writeTrain(2)", x.writeTrain(2), -1);
        Due.is("writeTrain(-1)", x.writeTrain(-1), -1);
        Due.paper(x, "ba");
        Due.train(x, 1, "i", 1);
        Due.paper(x, "ba");
        Due.is("writeTrain(1)", x.writeTrain(1), 1);
        Due.paper(x, "i");
    }

    private static void promise37Paper() {
        OrreryTrains x = new OrreryTrains();
        Due.paper(x, "");
        x.body(1, 1);
        Due.pairs(x, "c0 10/99;f1 11/98", 2);
        Due.train(x, 0, "b", 1);
        x.writePair(1);
        Due.paper(x, "f1 11/98");
        Due.is("paper(-1)", x.paper(-1), -1);
        Due.is("paper(least)", x.paper(Integer.MIN_VALUE), -1);
        Due.is("paper(greatest)", x.paper(Integer.MAX_VALUE), -1);
        x.image();
        x.writeTrain(0);
        Due.paper(x, "b");
        x.undo();
        Due.paper(x, "b");
        x.writePair(0);
        Due.paper(x, "c0 10/99");
    }
}
