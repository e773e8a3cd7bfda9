import java.lang.management.ManagementFactory;
import java.lang.reflect.Method;
import java.lang.reflect.Modifier;

/** No call makes an object, and a new object is small: all calls of a run live in one room. */
public final class RoomTest {
    private static final int MOST_BYTES_OF_ONE = 12000;
    private static final int OBJECTS = 20;
    private static final int ROUNDS = 3;

    /** Asking how many bytes there are makes some itself; the 7,800 calls make none. */
    private static final int MOST_BYTES_OF_MEASURING = 1000;

    private static final com.sun.management.ThreadMXBean THREADS =
        (com.sun.management.ThreadMXBean) ManagementFactory.getThreadMXBean();

    public static void main(String[] args) {
        OrreryTrains warm = rich();
        askAll(warm);
        askMore(warm);
        long before = bytes();
        OrreryTrains x = new OrreryTrains();
        long one = bytes() - before;
        Due.is("a new object's bytes: " + one, one > 0 && one < MOST_BYTES_OF_ONE ? 1 : 0, 1);
        // no object is asked more than 512 calls
        OrreryTrains[] stock = new OrreryTrains[OBJECTS];
        for (int i = 0; i < OBJECTS; i++) {
            stock[i] = rich();
        }
        before = bytes();
        long sum = 0;
        for (int i = 0; i < ROUNDS * OBJECTS; i++) {
            sum += askAll(stock[i % OBJECTS]);
            sum += askMore(stock[i % OBJECTS]);
        }
        long made = bytes() - before;
        Due.is("bytes that the calls made: " + made, made <= MOST_BYTES_OF_MEASURING ? 1 : 0, 1);
        System.out.println("all answers together: " + sum);
        int calls = 0;
        for (Method method : OrreryTrains.class.getDeclaredMethods()) {
            calls += Modifier.isPublic(method.getModifiers()) ? 1 : 0;
        }
        Due.is("calls that are asked here", calls, 43);
        Due.end();
    }

    private static long bytes() {
        return THREADS.getThreadAllocatedBytes(Thread.currentThread().getId());
    }

    private static OrreryTrains rich() {
        OrreryTrains x = new OrreryTrains();
        for (int i = 0; i < 4; i++) {
            x.body(2953 + i, 100);
        }
        Due.pairs(x, "c5 20/30;w4 24/12;k9 33/11;p8 17/51", 4);
        for (int i = 0; i < 4; i++) {
            Due.train(x, i, i % 2 == 0 ? "abc" : "cba", 3);
        }
        return x;
    }

    private static long askAll(OrreryTrains x) {
        long sum = x.body(1, 0) + x.ratio(0, 2954, 100) + x.term(0, 3) + x.convergent(0, 2, 0) + x.near(0, 99, 1);
        x.ratio(0, 9973, 100);
        sum += x.bounds(10, 24) + x.split(240, 2, 1) + x.prime(2039, 0);
        for (int i = 0; i < 60; i++) {
            sum += x.feed('a');
        }
        sum += x.pairs();
        sum += x.becomes(0, 3, 9) + x.teeth(0, 0, 20) + x.pair(0, 4) + x.pair(0, 6);
        x.feed('a');
        x.feed('b');
        sum += x.train(0) + x.drop(1) + x.of(0, 1);
        x.feed('d');
        x.feed('b');
        sum += x.train(1) + x.turns(0, 0) + x.wrong(0, 0) + x.backlash(0, 0) + x.share(0, 1) + x.order(2, 0) + x.order(2, 12);
        return sum;
    }

    private static long askMore(OrreryTrains x) {
        long sum = x.found(0, 12) + x.foundWrong(0, 0) + x.turn(5) + x.turn(-5) + x.crank(0) + x.stands(0);
        x.bounds(85, 99);
        sum += x.found(0, 12) + x.meet(0, 1) + x.join(0, 1, 0) + x.drift(0, 9999) + x.were(0, 0, 15000, 0);
        sum += x.odds(0, 7, 30, 0) + x.plan(0, 5) + x.plan(1, 0) + x.plan(2, 0) + x.ends(10) + x.writePair(0);
        sum += x.writeTrain(0) + x.paper(0) + x.judge(0) + x.list(0, 12) + x.put(0, 3, 5) + x.get(0, 3);
        sum += x.judge(0) + x.image() + x.undo() + x.count(3) + x.count(2);
        return sum;
    }
}
