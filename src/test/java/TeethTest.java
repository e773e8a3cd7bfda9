/** Promises 7 to 9: bounds, numbers split into teeth, primes. */
public final class TeethTest {
    public static void main(String[] args) {
        promise7Bounds();
        promise8Split();
        promise8SplitWithinBounds();
        promise9Prime();
        Due.end();
    }

    private static void promise7Bounds() {
        OrreryTrains x = new OrreryTrains();
        Due.is("bounds(9, 20)", x.bounds(9, 20), -2);
        Due.is("bounds(90, 100)", x.bounds(90, 100), -2);
        Due.is("bounds(21, 20)", x.bounds(21, 20), -2);
        Due.is("bounds(20, 35)", x.bounds(20, 35), -2);
        Due.is("bounds(least, most)", x.bounds(Integer.MIN_VALUE, Integer.MAX_VALUE), -2);
        Due.is("bounds(most, least)", x.bounds(Integer.MAX_VALUE, Integer.MIN_VALUE), -2);
        Due.is("bounds(20, 34)", x.bounds(20, 34), 2030);
        Due.is("bounds(10, 10)", x.bounds(10, 10), 2034);
        Due.is("bounds(99, 99)", x.bounds(99, 99), 1010);
        Due.is("bounds(100, 100)", x.bounds(100, 100), -2);
        Due.is("bounds(9, 9)", x.bounds(9, 9), -2);
        Due.is("bounds(85, 99)", x.bounds(85, 99), 9999);
        Due.is("bounds(10, 24)", x.bounds(10, 24), 8599);
        Due.is("bounds(10, 25)", x.bounds(10, 25), -2);
        Due.is("bounds(20, 30)", x.bounds(20, 30), 1024);
    }

    private static void splits(OrreryTrains x, int v, int m, int... want) {
        String told = "split(" + v + ", " + m + ", ";
        Due.is(told + "-1)", x.split(v, m, -1), want.length);
        for (int i = 0; i < want.length; i++) {
            Due.is(told + i + ")", x.split(v, m, i), want[i]);
        }
        Due.is(told + want.length + ")", x.split(v, m, want.length), -5);
        Due.is(told + "-2)", x.split(v, m, -2), -5);
        Due.is(told + "least)", x.split(v, m, Integer.MIN_VALUE), -5);
        Due.is(told + "greatest)", x.split(v, m, Integer.MAX_VALUE), -5);
    }

    private static void promise8Split() {
        OrreryTrains x = new OrreryTrains();
        splits(x, 400, 2, 2020);
        splits(x, 900, 2, 3030);
        splits(x, 600, 2, 2030, 2425);
        splits(x, 399, 2);
        splits(x, 20, 1, 20);
        splits(x, 30, 1, 30);
        splits(x, 25, 1, 25);
        splits(x, 19, 1);
        splits(x, 31, 1);
        splits(x, 1, 1);
        splits(x, 1, 2);
        splits(x, 9999, 1);
        splits(x, 9999, 2);
        Due.is("split(0, 1, -1)", x.split(0, 1, -1), -2);
        Due.is("split(10000, 1, -1)", x.split(10000, 1, -1), -2);
        Due.is("split(-1, 2, 0)", x.split(-1, 2, 0), -2);
        Due.is("split(400, 0, -1)", x.split(400, 0, -1), -2);
        Due.is("split(400, 3, -1)", x.split(400, 3, -1), -2);
        Due.is("split(0, 1, -2)", x.split(0, 1, -2), -2);
        Due.is("split(400, 3, 99)", x.split(400, 3, 99), -2);
    }

    private static void promise8SplitWithinBounds() {
        OrreryTrains x = new OrreryTrains();
        x.bounds(10, 24);
        splits(x, 240, 2, 1024, 1220, 1516);
        splits(x, 400, 2, 2020);
        splits(x, 144, 2, 1212);
        splits(x, 250, 2);
        splits(x, 20, 1, 20);
        splits(x, 25, 1);
        splits(x, 9, 1);
        x.bounds(85, 99);
        splits(x, 9801, 2, 9999);
        splits(x, 7225, 2, 8585);
        splits(x, 8640, 2, 9096);
        splits(x, 99, 1, 99);
    }

    private static void primes(OrreryTrains x, int v, int... want) {
        Due.is("prime(" + v + ", -1)", x.prime(v, -1), want.length);
        for (int i = 0; i < want.length; i++) {
            Due.is("prime(" + v + ", " + i + ")", x.prime(v, i), want[i]);
        }
        Due.is("prime(" + v + ") behind the last", x.prime(v, want.length), -5);
        Due.is("prime(" + v + ", -2)", x.prime(v, -2), -5);
        Due.is("prime(" + v + ", least)", x.prime(v, Integer.MIN_VALUE), -5);
        Due.is("prime(" + v + ", greatest)", x.prime(v, Integer.MAX_VALUE), -5);
    }

    private static void promise9Prime() {
        OrreryTrains x = new OrreryTrains();
        primes(x, 1);
        primes(x, 2, 2);
        primes(x, 4, 2, 2);
        primes(x, 9, 3, 3);
        primes(x, 15, 3, 5);
        primes(x, 360, 2, 2, 2, 3, 3, 5);
        primes(x, 1024, 2, 2, 2, 2, 2, 2, 2, 2, 2, 2);
        primes(x, 1849, 43, 43);
        primes(x, 2039, 2039);
        primes(x, 2046, 2, 3, 11, 31);
        primes(x, 2047, 23, 89);
        Due.is("prime(0, -1)", x.prime(0, -1), -2);
        Due.is("prime(-6, 0)", x.prime(-6, 0), -2);
        Due.is("prime(2048, 0)", x.prime(2048, 0), -2);
        Due.is("prime(2048, -2)", x.prime(2048, -2), -2);
        Due.is("prime(least, 0)", x.prime(Integer.MIN_VALUE, 0), -2);
    }
}
