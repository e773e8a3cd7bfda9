import java.io.IOException;
import java.nio.charset.StandardCharsets;
import java.nio.file.Files;
import java.nio.file.Path;
import java.util.Map;
import java.util.TreeMap;
import java.util.regex.Matcher;
import java.util.regex.Pattern;

/**
 * Each sentence of the document with a test of its own: what is too small, too large, empty, full, refused, or comes round.
 * No word of a promise, of the terms or of the answers may be left without a test that names it.
 */
public final class EdgesTest {
    private static final Path DOCUMENT = Path.of("../shared/DOC.md");

    public static void main(String[] args) throws IOException {
        BodiesEdges.tell();
        PairsEdges.tell();
        TrainsEdges.tell();
        CrankEdges.tell();
        PlansEdges.tell();
        ListsEdges.tell();
        AnswersEdges.tell();
        allWordsAreTested(sections(Files.readString(DOCUMENT, StandardCharsets.UTF_8)));
        System.out.println(Edges.all().size() + " tests of the document's sentences");
        Due.end();
    }

    private static Map<String, String> sections(String document) {
        Map<String, String> sections = new TreeMap<>();
        for (String part : document.split("(?m)^## ")) {
            int end = part.indexOf('\n');
            String title = end < 0 ? part : part.substring(0, end).trim();
            String text = end < 0 ? "" : part.substring(end);
            if (title.startsWith("Promise ")) {
                sections.put(title.substring(0, title.indexOf(':')), plain(text.replaceFirst("`[^`]*`: ", "")));
            } else if (title.equals("Terms")) {
                Matcher answers = Pattern.compile("(?m)^Answers: (.*)$").matcher(text);
                Due.is("the document tells the answers", answers.find() ? 1 : 0, 1);
                sections.put("Answers", plain(answers.group(1)));
                String terms = text.substring(0, answers.start());
                sections.put("Terms", plain(terms.replaceAll("```(text)?", " ").replaceAll("==== [0-9]", " ")));
            } else if (title.equals("What it is")) {
                Matcher use = Pattern.compile("(?m)^(An object is used .*;)").matcher(text);
                Due.is("the document tells how long an object is used", use.find() ? 1 : 0, 1);
                sections.put(title, plain(use.group(1)));
            }
        }
        Due.is("sections of the document", sections.size(), 47);
        return sections;
    }

    private static String plain(String text) {
        return text.replaceAll("\\s+", " ").trim();
    }

    private static void allWordsAreTested(Map<String, String> sections) {
        for (Map.Entry<String, String> section : sections.entrySet()) {
            String text = section.getValue();
            boolean[] tested = new boolean[text.length()];
            for (Edges.Told told : Edges.all()) {
                if (told.section().equals(section.getKey())) {
                    mark(section.getKey(), text, told.words(), tested);
                }
            }
            StringBuilder left = new StringBuilder();
            for (int i = 0; i < tested.length; i++) {
                left.append(tested[i] ? ' ' : text.charAt(i));
            }
            String words = plain(left.toString());
            Due.is(section.getKey() + " has words without a test: " + words, words.matches("[\\s.,;:()]*") ? 0 : 1, 0);
        }
        for (Edges.Told told : Edges.all()) {
            Due.is("the document has " + told.section(), sections.containsKey(told.section()) ? 1 : 0, 1);
        }
    }

    /** The first place of these words that no test named so far, or any, if all are named. */
    private static void mark(String section, String text, String words, boolean[] tested) {
        Matcher places = Pattern.compile("(?<![A-Za-z0-9])" + Pattern.quote(words) + "(?![A-Za-z0-9])").matcher(text);
        int place = -1;
        while (places.find()) {
            if (place < 0 || tested[place] && !tested[places.start()]) {
                place = places.start();
            }
        }
        Due.is(section + " of the document says: " + words, place >= 0 ? 1 : 0, 1);
        for (int i = 0; place >= 0 && i < words.length(); i++) {
            tested[place + i] = true;
        }
    }
}
