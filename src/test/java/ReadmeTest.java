import java.io.IOException;
import java.nio.charset.StandardCharsets;
import java.nio.file.Files;
import java.nio.file.Path;
import java.util.ArrayList;
import java.util.List;
import java.util.regex.Matcher;
import java.util.regex.Pattern;
import java.util.stream.Stream;

/** README.md is held against the class: its program prints what it says, and it names every call and every test. */
public final class ReadmeTest {
    private static final Path README = Path.of("README.md");
    private static final Path TESTS = Path.of("src/test/java");
    private static final Path MAIN = Path.of("src/main/java/OrreryTrains.java");
    private static final String PROGRAM = "Moon";

    public static void main(String[] args) throws IOException, InterruptedException {
        String page = Files.readString(README, StandardCharsets.UTF_8);
        programPrints(block(page, "java"), block(page, "text"));
        commandsAreTold(page);
        groupsAreTold(page);
        testsAreNamed(page);
        Due.end();
    }

    private static String block(String page, String language) {
        Matcher found = Pattern.compile("(?ms)^```" + language + "\n(.*?)^```$").matcher(page);
        Due.is("README.md has a block of " + language, found.find() ? 1 : 0, 1);
        return found.group(1);
    }

    private static void programPrints(String program, String due) throws IOException, InterruptedException {
        Path place = Files.createTempDirectory("readme");
        try {
            Path file = place.resolve(PROGRAM + ".java");
            Files.writeString(file, program);
            Path out = place.resolve("out");
            printed("javac", "-Xlint:all", "-Werror", "-d", out.toString(), MAIN.toString(), file.toString());
            String got = printed("java", "-cp", out.toString(), PROGRAM);
            Due.is("README.md's program prints:\n" + got, got.equals(due) ? 1 : 0, 1);
        } finally {
            remove(place);
        }
    }

    private static String printed(String... command) throws IOException, InterruptedException {
        // a machine may tell of its settings on the error stream, so only the other one is held against the page
        Process process = new ProcessBuilder(command).redirectError(ProcessBuilder.Redirect.INHERIT).start();
        String text = new String(process.getInputStream().readAllBytes(), StandardCharsets.UTF_8);
        Due.is("exit code of " + String.join(" ", command), process.waitFor(), 0);
        return text.replace("\r\n", "\n");
    }

    private static void remove(Path place) throws IOException {
        List<Path> all = new ArrayList<>();
        try (Stream<Path> walk = Files.walk(place)) {
            walk.forEach(all::add);
        }
        // what lies inside comes behind its directory
        for (int i = all.size() - 1; i >= 0; i--) {
            Files.delete(all.get(i));
        }
    }

    private static void commandsAreTold(String page) {
        for (String command : List.of(".ci/run", "javac -d out " + MAIN + " src/test/java/*.java",
                "java -cp out EdgesTest " + MAIN, "javac -d out " + MAIN + " " + PROGRAM + ".java", "java -cp out " + PROGRAM)) {
            Due.is("README.md tells the command " + command, page.contains("\n" + command + "\n") ? 1 : 0, 1);
        }
    }

    private static void groupsAreTold(String page) throws IOException {
        int calls = 0;
        for (Face.Group group : new Face().groups()) {
            calls += group.calls().size();
            String row = "| " + group.words() + " | `" + String.join("` `", group.calls()) + "` |";
            Due.is("README.md tells " + row, page.contains("\n" + row + "\n") ? 1 : 0, 1);
        }
        Due.is("calls", calls, 43);
    }

    private static void testsAreNamed(String page) throws IOException {
        try (Stream<Path> files = Files.list(TESTS)) {
            for (Path file : files.toList()) {
                String name = file.getFileName().toString().replace(".java", "");
                if (name.endsWith("Test")) {
                    Due.is("README.md names " + name, page.contains("`" + name + "`") ? 1 : 0, 1);
                }
            }
        }
    }
}
