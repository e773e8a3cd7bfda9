/** Holds answers against those that are due. */
final class Due {
    private static int asked = 0;
    private static int wrong = 0;
    private static String about = "";

    private Due() {
    }

    static void is(String call, long got, long want) {
        asked++;
        if (got != want) {
            wrong++;
            System.out.println((about.isEmpty() ? "" : "[" + about + "] ") + call + " answered " + got + ", due is " + want);
        }
    }

    /** What the answers behind this call are about; it is printed with each that is not as due. */
    static void about(String words) {
        about = words;
    }

    static int asked() {
        return asked;
    }

    /** Three bodies; a turns by 20 to 30, b by 24 to 12, c (crowned) by 33 to 11, d by 17 to 51. */
    static OrreryTrains workshop() {
        OrreryTrains x = new OrreryTrains();
        x.body(7, 3);
        x.body(5, 2);
        x.body(1, 1);
        Due.pairs(x, "c5 20/30;w4 24/12;k9 33/11;p8 17/51", 4);
        return x;
    }

    static void feed(OrreryTrains x, String text) {
        for (int i = 0; i < text.length(); i++) {
            is("feed " + text.charAt(i) + " of " + text, x.feed(text.charAt(i)), i + 1);
        }
    }

    static void pairs(OrreryTrains x, String text, long want) {
        feed(x, text);
        is("pairs() of " + text, x.pairs(), want);
        is("count(4) behind pairs() of " + text, x.count(4), 0);
    }

    static void train(OrreryTrains x, int body, String text, long want) {
        feed(x, text);
        is("train(" + body + ") of " + text, x.train(body), want);
        is("count(4) behind train() of " + text, x.count(4), 0);
    }

    static void paper(OrreryTrains x, String want) {
        is("count(5) of " + want, x.count(5), want.length());
        for (int i = 0; i < want.length(); i++) {
            is("paper(" + i + ") of " + want, x.paper(i), want.charAt(i));
        }
        is("paper behind " + want, x.paper(want.length()), OrreryTrains.NONE);
    }

    /** Prints how many answers were held against what is due, and ends with 1 if one was otherwise. */
    static void end() {
        System.out.println(asked + " answers, " + wrong + " not as due");
        if (wrong > 0 || asked == 0) {
            System.exit(1);
        }
    }
}
