import java.lang.reflect.InvocationTargetException;
import java.util.ArrayList;
import java.util.Arrays;
import java.util.List;
import java.util.function.Consumer;
import java.util.function.Supplier;

/** Two objects made alike; one is asked, then both must answer all else alike: so nothing has become another. */
final class Twins {
    private Twins() {
    }

    /** The call answers so, and changes nothing: a call that is refused, or one that only asks. */
    static void unchanged(Supplier<OrreryTrains> made, long due, String call, Object... arguments) {
        same(made, call + Arrays.toString(arguments), x -> Due.is(call + Arrays.toString(arguments), ask(x, call, arguments), due),
            x -> { });
    }

    /** What is fed is read by the call and refused; THE TAPE is empty then, and nothing else is otherwise. */
    static void unread(Supplier<OrreryTrains> made, String text, long due, String call, Object... arguments) {
        String told = call + Arrays.toString(arguments) + " of \"" + text + "\"";
        same(made, told, x -> {
            emptyTape(x);
            Stage.feed(x, text);
            Due.is("bytes ahead of " + told, x.count(4), text.length());
            Due.is(told, ask(x, call, arguments), due);
            Due.is("bytes behind " + told, x.count(4), 0);
        }, Twins::emptyTape);
    }

    /** Both runs of calls end in the same. */
    static void same(Supplier<OrreryTrains> made, String told, Consumer<OrreryTrains> one, Consumer<OrreryTrains> other) {
        for (Ending ending : ENDINGS) {
            OrreryTrains x = made.get();
            OrreryTrains y = made.get();
            one.accept(x);
            other.accept(y);
            List<Long> got = ending.answers(x);
            List<Long> due = ending.answers(y);
            Due.is(told + ", then what is told elsewhere: " + got + " and " + due, got.equals(due) ? 1 : 0, 1);
        }
    }

    static long ask(OrreryTrains x, String name, Object... arguments) {
        Class<?>[] types = new Class<?>[arguments.length];
        for (int i = 0; i < types.length; i++) {
            types[i] = arguments[i] instanceof Long ? long.class : int.class;
        }
        try {
            return ((Number) OrreryTrains.class.getMethod(name, types).invoke(x, arguments)).longValue();
        } catch (InvocationTargetException e) {
            throw new IllegalStateException(name + Arrays.toString(arguments), e.getCause());
        } catch (ReflectiveOperationException e) {
            throw new IllegalStateException(name + Arrays.toString(arguments), e);
        }
    }

    private static void emptyTape(OrreryTrains x) {
        // a text that ends in ; tells nothing, so that no PAIR comes by this
        x.feed(';');
        x.pairs();
        Due.is("bytes on an emptied tape", x.count(4), 0);
    }

    private interface Ending {
        List<Long> answers(OrreryTrains x);
    }

    /** What THE TAPE and THE IMAGE hold shows only where it is used up: each on twins of its own. */
    private static final List<Ending> ENDINGS = List.of(Twins::all, Twins::byTapeAsTrain, Twins::byTapeAsPairs, Twins::byUndo);

    private static List<Long> byTapeAsTrain(OrreryTrains x) {
        List<Long> told = new ArrayList<>();
        told.add((long) x.train(0));
        told.addAll(state(x));
        return told;
    }

    private static List<Long> byTapeAsPairs(OrreryTrains x) {
        List<Long> told = new ArrayList<>();
        told.add((long) x.pairs());
        told.addAll(state(x));
        return told;
    }

    private static List<Long> byUndo(OrreryTrains x) {
        List<Long> told = new ArrayList<>();
        told.add((long) x.undo());
        told.addAll(state(x));
        return told;
    }

    private static List<Long> all(OrreryTrains x) {
        List<Long> told = new ArrayList<>();
        for (int i = 0; i < x.count(5); i++) {
            told.add((long) x.paper(i));
        }
        for (int list = 0; list < 4; list++) {
            told.add((long) x.judge(list));
            for (int i = 0; i < 12; i++) {
                told.add(x.get(list, i));
            }
        }
        told.addAll(state(x));
        return told;
    }

    /** All but the LISTS and THE PAPER; BOUNDS become others by that, so nothing is asked behind it. */
    private static List<Long> state(OrreryTrains x) {
        List<Long> told = new ArrayList<>();
        for (int what = 0; what < 7; what++) {
            told.add((long) x.count(what));
        }
        told.add((long) x.crank(0));
        told.add((long) x.crank(1));
        told.add(x.ends(0));
        for (int body = 0; body < x.count(0); body++) {
            for (int what : new int[] {0, 1, 10, 11, 12}) {
                told.add((long) x.of(body, what));
            }
            told.add(x.stands(body));
            told.add(x.ends(10 + body));
            int last = x.term(body, -1) - 1;
            told.add(x.convergent(body, last, 0));
            told.add(x.convergent(body, last, 1));
        }
        for (int pair = 0; pair < x.count(1); pair++) {
            for (int what = 0; what < 7; what++) {
                told.add((long) x.pair(pair, what));
            }
        }
        told.add((long) x.bounds(10, 10));
        return told;
    }
}
