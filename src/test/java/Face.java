import java.io.IOException;
import java.nio.charset.StandardCharsets;
import java.nio.file.Files;
import java.nio.file.Path;
import java.util.ArrayList;
import java.util.List;
import java.util.regex.Matcher;
import java.util.regex.Pattern;

/** What ../shared/DOC.md says of the public face. */
final class Face {
    /** Calls, and what the interface says ahead of them. */
    record Group(String words, List<String> calls) {
    }

    private final String document;

    Face() throws IOException {
        document = Files.readString(Path.of("../shared/DOC.md"), StandardCharsets.UTF_8);
    }

    /** The members in their order, without what ends a declaration. */
    List<String> members() {
        Matcher block = Pattern.compile("(?ms)^## The public face\n+```java\n(.*?)^```$").matcher(document);
        Due.is("the document shows the face", block.find() ? 1 : 0, 1);
        List<String> members = new ArrayList<>();
        for (String line : block.group(1).split("\n")) {
            if (line.startsWith("    ")) {
                members.add(line.trim().replaceAll(";$", ""));
            }
        }
        return members;
    }

    List<Group> groups() {
        List<Group> groups = new ArrayList<>();
        Matcher told = Pattern.compile("(?m)^Ahead of the calls (.*) the interface says: ---- (.*)\\.$").matcher(document);
        while (told.find()) {
            groups.add(new Group(told.group(2), List.of(told.group(1).replace("`", "").split(", "))));
        }
        return groups;
    }

    /** What each promise is told of, by its number (from 1; the first one's is the constructor). */
    List<String> promised() {
        List<String> promised = new ArrayList<>();
        Matcher told = Pattern.compile("(?m)^## Promise ([0-9]+): .*\n+`([^`]*)`: ").matcher(document);
        while (told.find()) {
            Due.is("number of a promise", Integer.parseInt(told.group(1)), promised.size() + 1);
            promised.add(told.group(2));
        }
        return promised;
    }
}
