import java.io.IOException;
import java.nio.charset.StandardCharsets;
import java.nio.file.Files;
import java.nio.file.Path;
import java.util.ArrayList;
import java.util.List;
import java.util.regex.Matcher;
import java.util.regex.Pattern;

/** The class shows the document's face: its members with their words, in their order, and what is said ahead of them. */
public final class FaceTest {
    public static void main(String[] args) throws IOException {
        Face face = new Face();
        String text = Files.readString(Path.of(args[0]), StandardCharsets.ISO_8859_1);
        membersAreShown(face, text);
        groupsAreShown(face, text);
        promisesAreOfTheFace(face);
        Due.end();
    }

    private static void membersAreShown(Face face, String text) {
        List<String> shown = new ArrayList<>();
        Matcher member = Pattern.compile("(?m)^    (public [^{;]*[^{; ])").matcher(text);
        while (member.find()) {
            shown.add(member.group(1));
        }
        List<String> due = face.members();
        Due.is("members of the document's face", due.size(), 46);
        Due.is("members that the class shows", shown.size(), due.size());
        for (int i = 0; i < due.size() && i < shown.size(); i++) {
            Due.is("member " + i + ", " + due.get(i) + ", shown as " + shown.get(i), shown.get(i).equals(due.get(i)) ? 1 : 0, 1);
        }
    }

    private static void groupsAreShown(Face face, String text) {
        List<String> shown = new ArrayList<>();
        Matcher line = Pattern.compile("(?m)^    (// ---- .*|public \\w+ (\\w+)\\(.*)$").matcher(text);
        while (line.find()) {
            shown.add(line.group(2) == null ? line.group(1) : line.group(2));
        }
        List<String> due = new ArrayList<>();
        for (Face.Group group : face.groups()) {
            due.add("// ---- " + group.words());
            due.addAll(group.calls());
        }
        Due.is("groups and calls of the document", due.size(), 8 + 43);
        Due.is("groups and calls in the class: " + shown, shown.equals(due) ? 1 : 0, 1);
    }

    private static void promisesAreOfTheFace(Face face) {
        List<String> promised = face.promised();
        Due.is("promises", promised.size(), 44);
        List<String> members = face.members();
        for (String told : promised) {
            Due.is("the face has " + told, members.contains("public " + told) ? 1 : 0, 1);
        }
    }
}
