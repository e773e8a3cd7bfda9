import java.util.ArrayList;
import java.util.List;

/** Tests that each tell, in the document's own words, what they test. */
final class Edges {
    record Told(String section, String words) {
    }

    private static final List<Told> ALL = new ArrayList<>();
    private static String section = "";

    private Edges() {
    }

    /** The tests behind this call are of this promise. */
    static void promise(int number) {
        section = "Promise " + number;
    }

    static void terms() {
        section = "Terms";
    }

    static void answers() {
        section = "Answers";
    }

    static void use() {
        section = "What it is";
    }

    static void edge(String words, Runnable test) {
        ALL.add(new Told(section, words));
        Due.about(section + ": " + words);
        int asked = Due.asked();
        test.run();
        Due.is("the test asks something", Due.asked() > asked ? 1 : 0, 1);
        Due.about("");
    }

    static List<Told> all() {
        return ALL;
    }
}
