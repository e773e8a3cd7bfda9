import java.lang.reflect.InvocationTargetException;
import java.lang.reflect.Method;
import java.lang.reflect.Modifier;
import java.util.ArrayList;
import java.util.Arrays;
import java.util.Comparator;
import java.util.List;
import java.util.Random;

/** Long runs of calls, the same ones each time, on the class and on the model: all answers must be alike. */
public final class ModelTest {
    private static final int RUNS = 1200;
    private static final int CALLS = 512;
    private static final int[] WILD = {
        Integer.MIN_VALUE, Integer.MIN_VALUE + 1, -2147483638, -10001, -1001, -101, -100, -99, -14, -3, -2, -1, 0, 1, 2, 3, 4,
        5, 6, 7, 8, 9, 10, 11, 12, 13, 14, 15, 16, 29, 30, 31, 60, 98, 99, 100, 101, 126, 127, 128, 499, 500, 2047, 2048, 9999,
        10000, 65536, 1 << 30, Integer.MAX_VALUE - 1, Integer.MAX_VALUE};

    private final Random random;
    private final OrreryTrains x = new OrreryTrains();
    private final Model model = new Model();
    private final String run;
    private int calls = 0;

    private ModelTest(int seed) {
        random = new Random(seed);
        run = "run " + seed + ", call ";
    }

    public static void main(String[] args) throws ReflectiveOperationException {
        List<Method> face = face();
        for (int seed = 0; seed < RUNS; seed++) {
            new ModelTest(seed).go(face);
        }
        Due.end();
    }

    private static List<Method> face() {
        List<Method> face = new ArrayList<>();
        for (Method method : OrreryTrains.class.getDeclaredMethods()) {
            if (Modifier.isPublic(method.getModifiers())) {
                face.add(method);
            }
        }
        face.sort(Comparator.comparing(Method::getName));
        return face;
    }

    private void go(List<Method> face) throws ReflectiveOperationException {
        int bodies = random.nextInt(8);
        for (int i = 0; i < bodies; i++) {
            call("body", ratioPart(), ratioPart());
        }
        for (int i = random.nextInt(4); i > 0; i--) {
            tellPairs();
        }
        for (int i = 0; i < bodies; i++) {
            if (random.nextInt(4) > 0) {
                tellTrain(i);
            }
        }
        while (calls < CALLS - 70) {
            int kind = random.nextInt(100);
            if (kind < 2) {
                tellPairs();
            } else if (kind < 10) {
                tellTrain(int6());
            } else if (kind < 12) {
                listTrue();
            } else if (kind < 14) {
                wereTrue();
            } else if (kind < 16) {
                foundBetween();
            } else {
                Method method = face.get(random.nextInt(face.size()));
                if (!rare(method.getName())) {
                    call(method.getName(), arguments(method));
                }
            }
        }
        for (int what = 0; what < 7; what++) {
            call("count", what);
        }
    }

    /** Calls that end what is there are drawn more seldom, so that runs stay rich. */
    private boolean rare(String name) {
        return List.of("drop", "pairs", "undo", "feed").contains(name) && random.nextInt(4) > 0;
    }

    private Object[] arguments(Method method) {
        Object[] arguments = new Object[method.getParameterCount()];
        for (int i = 0; i < arguments.length; i++) {
            int v = random.nextInt(12) == 0 ? WILD[random.nextInt(WILD.length)] : fitting(method.getName(), i);
            arguments[i] = method.getParameterTypes()[i] == long.class ? (Object) (long) v : (Object) v;
        }
        if (method.getName().equals("plan") && random.nextInt(8) > 0) {
            arguments[0] = random.nextInt(3);
            int first = random.nextInt(199) - 99;
            arguments[1] = (Integer) arguments[0] == 0 ? first : random.nextInt((Integer) arguments[0] == 1 ? 6 : 10);
        }
        return arguments;
    }

    private int fitting(String name, int place) {
        String kinds = switch (name) {
            case "body" -> "rr";
            case "ratio" -> "brr";
            case "term" -> "bi";
            case "convergent" -> "bip";
            case "near" -> "bnp";
            case "bounds" -> "tT";
            case "split" -> "vpi";
            case "prime" -> "vi";
            case "feed" -> "l";
            case "becomes" -> "aif";
            case "teeth" -> "apt";
            case "pair" -> "ai";
            case "train", "drop", "stands", "writeTrain" -> "b";
            case "of", "order", "found" -> "bw";
            case "turns", "wrong", "backlash", "foundWrong" -> "bp";
            case "share", "meet" -> "bb";
            case "turn" -> "c";
            case "crank" -> "p";
            case "join" -> "bbd";
            case "drift" -> "br";
            case "were" -> "bivp";
            case "odds" -> "bvnp";
            case "plan" -> "ic";
            case "ends" -> "w";
            case "writePair" -> "a";
            case "paper" -> "i";
            case "judge" -> "L";
            case "list" -> "Ls";
            case "put" -> "Lsv";
            case "get" -> "Ls";
            case "count" -> "i";
            default -> "";
        };
        return drawn(kinds.charAt(place));
    }

    private int drawn(char kind) {
        return switch (kind) {
            case 'r' -> ratioPart();
            case 'b' -> int6();
            case 'a' -> random.nextInt(11);
            case 'i' -> random.nextInt(9) - 1;
            case 'p' -> random.nextInt(2);
            case 'n' -> 1 + random.nextInt(random.nextBoolean() ? 99 : 30);
            case 't' -> 10 + random.nextInt(90);
            case 'T' -> 10 + random.nextInt(24);
            case 'f' -> random.nextInt(10);
            case 'v' -> random.nextInt(random.nextBoolean() ? 10000 : 1000);
            case 'l' -> 32 + random.nextInt(95);
            case 'w' -> random.nextInt(4) == 0 ? random.nextInt(3) : 10 + random.nextInt(6);
            case 'c' -> random.nextInt(199) - 99;
            case 'd' -> random.nextInt(random.nextBoolean() ? 500 : 20);
            case 'L' -> random.nextInt(4);
            default -> random.nextInt(13);
        };
    }

    private int int6() {
        return random.nextInt(6);
    }

    private int ratioPart() {
        return 1 + random.nextInt(random.nextBoolean() ? 9999 : 60);
    }

    private void tellPairs() throws ReflectiveOperationException {
        StringBuilder text = new StringBuilder();
        for (int i = 1 + random.nextInt(6); i > 0; i--) {
            text.append(text.length() == 0 ? "" : ";").append("cfpwsk".charAt(int6())).append(random.nextInt(10)).append(' ');
            text.append(10 + random.nextInt(90)).append('/').append(10 + random.nextInt(90));
        }
        feed(random.nextInt(3) == 0 ? broken(text) : text.toString());
        call("pairs");
    }

    private void tellTrain(int body) throws ReflectiveOperationException {
        List<String> texts = Arrays.asList("a", "b", "ab", "ba", "abc", "acb", "abd", "cab", "bca", "cba", "d", "dab", "ebd", "jih", "ja");
        String text = texts.get(random.nextInt(texts.size()));
        feed(random.nextInt(4) == 0 ? broken(new StringBuilder(text)) : text);
        call("train", body);
    }

    private String broken(StringBuilder text) {
        int place = random.nextInt(text.length());
        String letters = "cfpwsk0123456789 /;abcdefghijkA\n";
        switch (random.nextInt(4)) {
            case 0 -> text.setLength(place);
            case 1 -> text.setCharAt(place, letters.charAt(random.nextInt(letters.length())));
            case 2 -> text.append(letters.charAt(random.nextInt(letters.length())));
            default -> text.deleteCharAt(place);
        }
        return text.toString();
    }

    private void feed(String text) throws ReflectiveOperationException {
        for (int i = 0; i < text.length(); i++) {
            call("feed", (int) text.charAt(i));
        }
    }

    private void listTrue() throws ReflectiveOperationException {
        int list = random.nextInt(4);
        int size = random.nextInt(8);
        call("list", list, size);
        for (int i = 0; i < size; i++) {
            long stands = model.stands(i);
            call("put", list, i, stands == Long.MIN_VALUE ? 0L : stands + random.nextInt(20) / 19);
        }
        call("judge", list);
    }

    private void wereTrue() throws ReflectiveOperationException {
        int body = int6();
        call("were", body, random.nextInt(3), model.stands(body) * random.nextInt(2), random.nextInt(2));
    }

    /** A RATIO in the middle of two trains, so that some are as near as others. */
    private void foundBetween() throws ReflectiveOperationException {
        int least = 10 + random.nextInt(20);
        int width = 1 + random.nextInt(4);
        call("bounds", least, least + width);
        long a = within(least, width);
        long b = within(least, width);
        long c = a + random.nextInt(3) - 1;
        long d = b + random.nextInt(3) - 1;
        long above = a * d + b * c;
        long below = 2 * b * d;
        long common = java.math.BigInteger.valueOf(above).gcd(java.math.BigInteger.valueOf(below)).longValue();
        int body = int6();
        call("ratio", body, (int) (above / common), (int) (below / common));
        for (int what : new int[] {0, 1, 10, 11, 12, 13}) {
            call("found", body, what);
        }
        call("foundWrong", body, 0);
        call("near", body, 1 + random.nextInt(99), 0);
    }

    private long within(int least, int width) {
        long one = least + random.nextInt(width + 1);
        return random.nextBoolean() ? one : one * (least + random.nextInt(width + 1));
    }

    private void call(String name, Object... arguments) throws ReflectiveOperationException {
        calls++;
        String told = run + calls + ": " + name + Arrays.toString(arguments);
        Due.is(told, ask(x, name, arguments), ask(model, name, arguments));
    }

    private static long ask(Object who, String name, Object[] arguments) throws ReflectiveOperationException {
        Class<?>[] types = new Class<?>[arguments.length];
        for (int i = 0; i < types.length; i++) {
            types[i] = arguments[i] instanceof Long ? long.class : int.class;
        }
        try {
            return ((Number) who.getClass().getMethod(name, types).invoke(who, arguments)).longValue();
        } catch (InvocationTargetException e) {
            throw new IllegalStateException(name + Arrays.toString(arguments), e.getCause());
        }
    }
}
