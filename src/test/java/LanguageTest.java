import java.io.IOException;
import java.lang.reflect.Constructor;
import java.lang.reflect.Field;
import java.lang.reflect.Member;
import java.lang.reflect.Method;
import java.lang.reflect.Modifier;
import java.nio.charset.StandardCharsets;
import java.nio.file.Files;
import java.nio.file.Path;
import java.util.ArrayList;
import java.util.Arrays;
import java.util.List;
import java.util.Set;
import java.util.TreeSet;
import java.util.regex.Matcher;
import java.util.regex.Pattern;

/** Looks for what ../shared/LANGUAGE.md keeps out of the class, as far as a text and a face can tell. */
public final class LanguageTest {
    private static final String FACE = """
        int body(int,int)
        int ratio(int,int,int)
        int term(int,int)
        long convergent(int,int,int)
        long near(int,int,int)
        int bounds(int,int)
        int split(int,int,int)
        int prime(int,int)
        int feed(int)
        int pairs()
        int becomes(int,int,int)
        int teeth(int,int,int)
        int pair(int,int)
        int train(int)
        int drop(int)
        int of(int,int)
        long turns(int,int)
        long wrong(int,int)
        long backlash(int,int)
        int share(int,int)
        int order(int,int)
        int found(int,int)
        long foundWrong(int,int)
        int turn(int)
        int crank(int)
        long stands(int)
        long meet(int,int)
        int join(int,int,int)
        long drift(int,int)
        int were(int,int,long,int)
        long odds(int,int,int,int)
        int plan(int,int)
        long ends(int)
        int writePair(int)
        int writeTrain(int)
        int paper(int)
        int judge(int)
        int list(int,int)
        int put(int,int,long)
        long get(int,int)
        int image()
        int undo()
        int count(int)
        """;
    private static final String FORBIDDEN = "throw|throws|try|catch|finally|synchronized|assert|import|package|native|volatile|"
        + "transient|instanceof|var|yield|Object|System|Thread|Random|Exception|Error|protected|float|double";
    private static final int LONGEST_METHOD = 60;
    private static final int MOST_FIELDS = 20;
    private static final int MOST_CLASSES = 12;

    public static void main(String[] args) throws IOException {
        face();
        members();
        String text = Files.readString(Path.of(args[0]), StandardCharsets.ISO_8859_1);
        signs(text);
        words(bare(text));
        methods(bare(text));
        Due.end();
    }

    private static void face() {
        Set<String> due = new TreeSet<>(Arrays.asList(FACE.strip().split("\\s*\n\\s*")));
        Set<String> got = new TreeSet<>();
        for (Method method : OrreryTrains.class.getDeclaredMethods()) {
            if (Modifier.isPublic(method.getModifiers())) {
                String types = String.join(",", Arrays.stream(method.getParameterTypes()).map(Class::getName).toList());
                got.add(method.getReturnType().getName() + " " + method.getName() + "(" + types + ")");
                Due.is("static " + method, Modifier.isStatic(method.getModifiers()) ? 1 : 0, 0);
            }
        }
        for (String one : due) {
            Due.is("the face has " + one, got.contains(one) ? 1 : 0, 1);
        }
        Due.is("size of the face: " + got, got.size(), 43);
        Due.is("public final", OrreryTrains.class.getModifiers(), Modifier.PUBLIC | Modifier.FINAL);
        Constructor<?>[] constructors = OrreryTrains.class.getDeclaredConstructors();
        Due.is("constructors", constructors.length, 1);
        Due.is("constructor's modifiers", constructors[0].getModifiers(), Modifier.PUBLIC);
        Due.is("constructor's parameters", constructors[0].getParameterCount(), 0);
    }

    private static void members() {
        Set<String> constants = Set.of("NONE", "BAD", "STATE", "FULL", "NOT", "NO");
        Set<String> publicNames = new TreeSet<>();
        List<Member> all = new ArrayList<>(Arrays.asList(OrreryTrains.class.getDeclaredMethods()));
        for (Member member : all) {
            if (Modifier.isPublic(member.getModifiers())) {
                publicNames.add(member.getName());
            }
        }
        all.addAll(Arrays.asList(OrreryTrains.class.getDeclaredFields()));
        for (Member member : all) {
            boolean isFace = member instanceof Method ? publicNames.contains(member.getName()) : constants.contains(member.getName());
            int due = isFace ? Modifier.PUBLIC : Modifier.PRIVATE;
            int mask = Modifier.PUBLIC | Modifier.PRIVATE | Modifier.PROTECTED;
            Due.is("access of " + member, member.getModifiers() & mask, due);
        }
        Class<?>[] inside = OrreryTrains.class.getDeclaredClasses();
        Due.is("classes", inside.length + 1 <= MOST_CLASSES ? 1 : 0, 1);
        fields(OrreryTrains.class);
        for (Class<?> one : inside) {
            Due.is("static " + one, Modifier.isStatic(one.getModifiers()) ? 1 : 0, 1);
            fields(one);
            for (Method method : one.getDeclaredMethods()) {
                Due.is("a public one's name: " + method, publicNames.contains(method.getName()) ? 1 : 0, 0);
                Due.is("parameters of " + method, method.getParameterCount() <= 7 ? 1 : 0, 1);
            }
        }
    }

    private static void fields(Class<?> one) {
        int fields = 0;
        for (Field field : one.getDeclaredFields()) {
            if (Modifier.isStatic(field.getModifiers())) {
                Due.is("final " + field, Modifier.isFinal(field.getModifiers()) ? 1 : 0, 1);
            } else {
                fields++;
            }
        }
        Due.is("fields of " + one + ": " + fields, fields <= MOST_FIELDS ? 1 : 0, 1);
    }

    private static void signs(String text) {
        for (int i = 0; i < text.length(); i++) {
            if (text.charAt(i) > 126 || text.charAt(i) < 10) {
                Due.is("sign at " + i, text.charAt(i), ' ');
            }
        }
    }

    /** The text without comments, and without what stands between quotes. */
    private static String bare(String text) {
        String withoutComments = text.replaceAll("(?s)/\\*.*?\\*/", " ").replaceAll("//[^\n]*", " ");
        return withoutComments.replaceAll("'(\\\\.|[^'\\\\])'", "' '").replaceAll("\"[^\"\n]*\"", "\"\"");
    }

    private static void words(String text) {
        Matcher found = Pattern.compile("\\b(" + FORBIDDEN + ")\\b|->|::|@|\\benum\\b").matcher(text);
        while (found.find()) {
            Due.is("forbidden: " + found.group() + " at " + found.start(), 1, 0);
        }
        Matcher loops = Pattern.compile("\\b(while|do)\\b").matcher(text);
        Due.is("loops without a counter", loops.find() ? 1 : 0, 0);
        Matcher statics = Pattern.compile("static\\s*\\{").matcher(text);
        Due.is("static initialisers", statics.find() ? 1 : 0, 0);
        Matcher made = Pattern.compile("^ {8,}.*\\bnew\\b(?! (int|long)\\[)", Pattern.MULTILINE).matcher(text);
        while (made.find()) {
            String line = made.group();
            Due.is("made outside of a field: " + line, line.contains("final ") ? 0 : 1, 0);
        }
    }

    private static void methods(String text) {
        int start = -1;
        int line = 0;
        for (String one : text.split("\n")) {
            line++;
            if (one.matches(" {4,8}\\S.*\\) \\{") && !one.contains(" class ") && !one.matches("\\s*(for|if|switch|}).*")) {
                start = line;
            }
            if (one.matches(" {4,8}}") && start > 0) {
                Due.is("lines of the method at " + start, line - start < LONGEST_METHOD ? 1 : 0, 1);
                start = -1;
            }
        }
    }
}
