import java.math.BigInteger;
import java.util.ArrayList;
import java.util.HashMap;
import java.util.HashSet;
import java.util.List;
import java.util.Map;
import java.util.Set;
import java.util.regex.Matcher;
import java.util.regex.Pattern;

/** The document once more, told in the plainest and slowest way, to hold the class against. */
final class Model {
    private static final int NONE = -1, BAD = -2, STATE = -3, FULL = -4, NOT = -5;
    private static final long NO = Long.MIN_VALUE;
    private static final String LETTERS = "cfpwsk";
    private static final String CLAUSE = "[cfpwsk][0-9] [1-9][0-9]/[1-9][0-9]";
    private static final Pattern PAIRS = Pattern.compile(CLAUSE + "(;" + CLAUSE + ")*");

    record Fraction(BigInteger above, BigInteger below) implements Comparable<Fraction> {
        static Fraction of(long above, long below) {
            return of(BigInteger.valueOf(above), BigInteger.valueOf(below));
        }

        static Fraction of(BigInteger above, BigInteger below) {
            BigInteger common = above.gcd(below);
            return new Fraction(above.divide(common), below.divide(common));
        }

        Fraction plus(Fraction other) {
            return of(above.multiply(other.below).add(other.above.multiply(below)), below.multiply(other.below));
        }

        Fraction times(Fraction other) {
            return of(above.multiply(other.above), below.multiply(other.below));
        }

        Fraction minus(Fraction other) {
            return plus(other.negate());
        }

        Fraction negate() {
            return new Fraction(above.negate(), below);
        }

        Fraction size() {
            return new Fraction(above.abs(), below);
        }

        long cut() {
            return above.divide(below).longValueExact();
        }

        Fraction lessFloor() {
            return of(above.mod(below), below);
        }

        long part(int part) {
            return (part == 0 ? above : below).longValueExact();
        }

        @Override
        public int compareTo(Fraction other) {
            return above.multiply(other.below).compareTo(other.above.multiply(below));
        }
    }

    private static final class Pair {
        int kind;
        int figure;
        int driver;
        int driven;

        int play() {
            int cut = figure;
            int filed = cut + 3;
            int pinned = cut / 2;
            int[] byKind = {cut, filed, pinned, filed * 2, figure % 2 == 0 ? 0 : pinned, cut};
            return byKind[kind];
        }

        Pair copy() {
            Pair copy = new Pair();
            copy.kind = kind;
            copy.figure = figure;
            copy.driver = driver;
            copy.driven = driven;
            return copy;
        }
    }

    private static final class State {
        List<Fraction> ratios = new ArrayList<>();
        List<List<Integer>> trains = new ArrayList<>();
        List<Pair> pairs = new ArrayList<>();
        List<int[]> plan = new ArrayList<>();
        int least = 20;
        int most = 30;
        int turn = 0;
        boolean back = false;

        State copy() {
            State copy = new State();
            copy.ratios.addAll(ratios);
            for (List<Integer> train : trains) {
                copy.trains.add(new ArrayList<>(train));
            }
            for (Pair pair : pairs) {
                copy.pairs.add(pair.copy());
            }
            copy.plan.addAll(plan);
            copy.least = least;
            copy.most = most;
            copy.turn = turn;
            copy.back = back;
            return copy;
        }

        boolean hasBody(int body) {
            return body >= 0 && body < ratios.size();
        }

        boolean hasPair(int pair) {
            return pair >= 0 && pair < pairs.size();
        }

        boolean hasTrain(int body) {
            return hasBody(body) && !trains.get(body).isEmpty();
        }

        Fraction turns(int body) {
            Fraction turns = Fraction.of(1, 1);
            for (int pair : trains.get(body)) {
                turns = turns.times(Fraction.of(pairs.get(pair).driver, pairs.get(pair).driven));
            }
            return turns;
        }

        Fraction wrong(int body) {
            return turns(body).minus(ratios.get(body));
        }

        Fraction backlash(int body) {
            Fraction sum = Fraction.of(0, 1);
            List<Integer> train = trains.get(body);
            for (int i = 0; i < train.size(); i++) {
                Fraction one = Fraction.of(pairs.get(train.get(i)).play(), 100 * pairs.get(train.get(i)).driven);
                for (int pair : train.subList(i + 1, train.size())) {
                    one = one.times(Fraction.of(pairs.get(pair).driver, 1));
                }
                for (int pair : train.subList(i + 1, train.size())) {
                    one = one.times(Fraction.of(1, pairs.get(pair).driven));
                }
                sum = sum.plus(one);
            }
            return sum;
        }

        boolean isRound(int body) {
            return trains.get(body).stream().filter(pair -> pairs.get(pair).kind != 5).count() % 2 == 1;
        }

        long stands(int body) {
            long place = turns(body).times(Fraction.of(1000000L * turn, 1)).cut();
            if (back) {
                place += backlash(body).times(Fraction.of(1000000, 1)).cut();
            }
            return isRound(body) ? -place : place;
        }

        Fraction part(int body, int t) {
            Fraction turned = turns(body).times(Fraction.of(t, 1));
            return (isRound(body) ? turned.negate() : turned).lessFloor();
        }

        int wheels() {
            Set<List<Integer>> beginnings = new HashSet<>();
            for (List<Integer> train : trains) {
                for (int k = 1; k <= train.size(); k++) {
                    beginnings.add(List.copyOf(train.subList(0, k)));
                }
            }
            return 2 * beginnings.size();
        }
    }

    private static final Map<String, int[]> FOUND = new HashMap<>();

    private State now = new State();
    private State image = null;
    private String tape = "";
    private String paper = "";
    private final long[][] lists = new long[4][];

    private static boolean in(long v, long least, long most) {
        return least <= v && v <= most;
    }

    public int body(int a, int b) {
        if (!in(a, 1, 9999) || !in(b, 1, 9999)) {
            return BAD;
        }
        if (now.ratios.size() == 6) {
            return FULL;
        }
        now.ratios.add(Fraction.of(a, b));
        now.trains.add(new ArrayList<>());
        return now.ratios.size() - 1;
    }

    public int ratio(int body, int a, int b) {
        if (!now.hasBody(body)) {
            return NONE;
        }
        if (!in(a, 1, 9999) || !in(b, 1, 9999)) {
            return BAD;
        }
        Fraction before = now.ratios.set(body, Fraction.of(a, b));
        return (int) (10000 * before.part(0) + before.part(1));
    }

    private List<Long> terms(int body) {
        List<Long> terms = new ArrayList<>();
        Fraction rest = now.ratios.get(body);
        while (true) {
            long whole = rest.cut();
            terms.add(whole);
            Fraction left = rest.minus(Fraction.of(whole, 1));
            if (left.above().signum() == 0) {
                return terms;
            }
            rest = Fraction.of(left.below(), left.above());
        }
    }

    public int term(int body, int i) {
        if (!now.hasBody(body)) {
            return NONE;
        }
        List<Long> terms = terms(body);
        if (i == -1) {
            return terms.size();
        }
        return in(i, 0, terms.size() - 1) ? (int) (long) terms.get(i) : NOT;
    }

    public long convergent(int body, int i, int part) {
        if (!now.hasBody(body) || !in(part, 0, 1) || !in(i, 0, terms(body).size() - 1)) {
            return NO;
        }
        List<Long> terms = terms(body);
        Fraction value = Fraction.of(terms.get(i), 1);
        for (int k = i - 1; k >= 0; k--) {
            value = Fraction.of(terms.get(k), 1).plus(Fraction.of(value.below(), value.above()));
        }
        return value.part(part);
    }

    public long near(int body, int n, int part) {
        if (!now.hasBody(body) || !in(n, 1, 99) || !in(part, 0, 1)) {
            return NO;
        }
        Fraction ratio = now.ratios.get(body);
        Fraction best = null;
        for (int k = 1; k <= n; k++) {
            long around = ratio.times(Fraction.of(k, 1)).cut();
            for (long h = Math.max(0, around - 2); h <= around + 2; h++) {
                Fraction here = Fraction.of(h, k);
                if (best == null || here.minus(ratio).size().compareTo(best.minus(ratio).size()) < 0) {
                    best = here;
                }
            }
        }
        return best.part(part);
    }

    public int bounds(int least, int most) {
        if (!in(least, 10, 99) || !in(most, 10, 99) || !in(most - least, 0, 14)) {
            return BAD;
        }
        int before = 100 * now.least + now.most;
        now.least = least;
        now.most = most;
        return before;
    }

    public int split(int v, int m, int i) {
        if (!in(v, 1, 9999) || !in(m, 1, 2)) {
            return BAD;
        }
        List<Integer> ways = new ArrayList<>();
        for (int one = now.least; one <= now.most; one++) {
            if (m == 1 && one == v) {
                ways.add(v);
            }
            for (int other = one; m == 2 && other <= now.most; other++) {
                if (one * other == v) {
                    ways.add(100 * one + other);
                }
            }
        }
        return pick(ways, i);
    }

    private static int pick(List<Integer> row, int i) {
        if (i == -1) {
            return row.size();
        }
        return in(i, 0, row.size() - 1) ? row.get(i) : NOT;
    }

    public int prime(int v, int i) {
        if (!in(v, 1, 2047)) {
            return BAD;
        }
        List<Integer> primes = new ArrayList<>();
        int rest = v;
        for (int f = 2; f <= v; f++) {
            while (rest % f == 0) {
                primes.add(f);
                rest /= f;
            }
        }
        return pick(primes, i);
    }

    public int feed(int letter) {
        if (!in(letter, 1, 127)) {
            return BAD;
        }
        if (tape.length() == 60) {
            return FULL;
        }
        tape += (char) letter;
        return tape.length();
    }

    public int pairs() {
        String text = tape;
        tape = "";
        for (int i = 0; i < text.length(); i++) {
            Matcher ahead = PAIRS.matcher(text.substring(0, i + 1));
            if (!ahead.matches() && !ahead.hitEnd()) {
                return -100 - i;
            }
        }
        if (!PAIRS.matcher(text).matches()) {
            return -100 - text.length();
        }
        String[] clauses = text.split(";");
        if (now.pairs.size() + clauses.length > 10) {
            return FULL;
        }
        for (String clause : clauses) {
            Pair pair = new Pair();
            pair.kind = LETTERS.indexOf(clause.charAt(0));
            pair.figure = Integer.parseInt(clause.substring(1, 2));
            pair.driver = Integer.parseInt(clause.substring(3, 5));
            pair.driven = Integer.parseInt(clause.substring(6, 8));
            now.pairs.add(pair);
        }
        return now.pairs.size();
    }

    public int becomes(int pair, int kind, int figure) {
        if (!now.hasPair(pair) || !in(kind, 0, 5)) {
            return NONE;
        }
        if (!in(figure, 0, 9)) {
            return BAD;
        }
        Pair which = now.pairs.get(pair);
        int before = 10 * which.kind + which.figure;
        which.kind = kind;
        which.figure = figure;
        return before;
    }

    public int teeth(int pair, int what, int v) {
        if (!now.hasPair(pair) || !in(what, 0, 1)) {
            return NONE;
        }
        if (!in(v, 10, 99)) {
            return BAD;
        }
        Pair which = now.pairs.get(pair);
        int before = what == 0 ? which.driver : which.driven;
        if (what == 0) {
            which.driver = v;
        } else {
            which.driven = v;
        }
        return before;
    }

    public int pair(int pair, int what) {
        if (!now.hasPair(pair) || !in(what, 0, 6)) {
            return NONE;
        }
        Pair which = now.pairs.get(pair);
        int trains = (int) now.trains.stream().filter(train -> train.contains(pair)).count();
        int[] told = {which.kind, which.figure, which.driver, which.driven, which.play(), which.kind == 5 ? 0 : 1, trains};
        return told[what];
    }

    public int train(int body) {
        if (!now.hasBody(body)) {
            return NONE;
        }
        String text = tape;
        tape = "";
        List<Integer> train = new ArrayList<>();
        for (int i = 0; i < text.length(); i++) {
            int pair = text.charAt(i) - 'a';
            if (!now.hasPair(pair) || train.contains(pair) || i == 3) {
                return -100 - i;
            }
            train.add(pair);
        }
        if (train.isEmpty()) {
            return -100;
        }
        now.trains.set(body, train);
        return train.size();
    }

    public int drop(int body) {
        if (!now.hasBody(body)) {
            return NONE;
        }
        if (!now.hasTrain(body)) {
            return STATE;
        }
        return now.trains.set(body, new ArrayList<>()).size();
    }

    public int of(int body, int what) {
        if (!now.hasBody(body) || !in(what, 0, 1) && !in(what, 10, 12)) {
            return NONE;
        }
        List<Integer> train = now.trains.get(body);
        if (what == 0) {
            return train.size();
        }
        if (what == 1) {
            return now.isRound(body) ? 1 : 0;
        }
        return what - 10 < train.size() ? train.get(what - 10) : NOT;
    }

    public long turns(int body, int part) {
        return now.hasTrain(body) && in(part, 0, 1) ? now.turns(body).part(part) : NO;
    }

    public long wrong(int body, int part) {
        return now.hasTrain(body) && in(part, 0, 1) ? now.wrong(body).part(part) : NO;
    }

    public long backlash(int body, int part) {
        return now.hasTrain(body) && in(part, 0, 1) ? now.backlash(body).part(part) : NO;
    }

    private boolean areTwo(int one, int other) {
        return now.hasBody(one) && now.hasBody(other) && one != other;
    }

    public int share(int one, int other) {
        if (!areTwo(one, other)) {
            return NONE;
        }
        if (!now.hasTrain(one) || !now.hasTrain(other)) {
            return STATE;
        }
        for (int k = 3; k > 0; k--) {
            if (k <= now.trains.get(one).size() && k <= now.trains.get(other).size()
                    && now.trains.get(one).subList(0, k).equals(now.trains.get(other).subList(0, k))) {
                return k;
            }
        }
        return 0;
    }

    private static void orders(List<Integer> begun, List<Integer> left, List<List<Integer>> all) {
        if (left.isEmpty()) {
            all.add(begun);
        }
        for (Integer next : left) {
            List<Integer> longer = new ArrayList<>(begun);
            longer.add(next);
            List<Integer> rest = new ArrayList<>(left);
            rest.remove(next);
            orders(longer, rest, all);
        }
    }

    public int order(int body, int what) {
        if (!now.hasBody(body) || what != 0 && !in(what, 10, 12)) {
            return NONE;
        }
        if (!now.hasTrain(body)) {
            return STATE;
        }
        List<List<Integer>> all = new ArrayList<>();
        orders(List.of(), now.trains.get(body), all);
        List<Integer> best = null;
        int fewest = 0;
        for (List<Integer> order : all) {
            State were = now.copy();
            were.trains.set(body, order);
            if (best == null || were.wheels() < fewest) {
                best = order;
                fewest = were.wheels();
            }
        }
        if (what == 0) {
            return fewest;
        }
        return what - 10 < best.size() ? best.get(what - 10) : NOT;
    }

    private static int product(int one, int other) {
        return other == 0 ? one : one * other;
    }

    private int[] found(int body) {
        Fraction ratio = now.ratios.get(body);
        return FOUND.computeIfAbsent(ratio + " " + now.least + " " + now.most,
                key -> seek(ratio.part(0), ratio.part(1), now.least, now.most));
    }

    /** The rows come in the order of the last tie, so that only the ties ahead of it have to be compared. */
    private static int[] seek(long a, long b, int least, int most) {
        int[] best = null;
        for (int d1 = least; d1 <= most; d1++) {
            for (int d2 = d1 - 1; d2 <= most; d2++) {
                for (int e1 = least; e1 <= most; e1++) {
                    for (int e2 = d2 < d1 ? 0 : e1; e2 <= (d2 < d1 ? 0 : most); e2++) {
                        int[] row = {d1, d2 < d1 ? 0 : d2, e1, e2};
                        if (best == null || precedes(row, best, a, b)) {
                            best = row;
                        }
                    }
                }
            }
        }
        return best;
    }

    private static boolean precedes(int[] row, int[] best, long a, long b) {
        long q = product(row[2], row[3]);
        long bestQ = product(best[2], best[3]);
        long off = Math.abs(product(row[0], row[1]) * b - a * q) * bestQ;
        long bestOff = Math.abs(product(best[0], best[1]) * b - a * bestQ) * q;
        if (off != bestOff) {
            return off < bestOff;
        }
        int pairs = row[3] == 0 ? 1 : 2;
        int bestPairs = best[3] == 0 ? 1 : 2;
        if (pairs != bestPairs) {
            return pairs < bestPairs;
        }
        return row[0] + row[1] + row[2] + row[3] < best[0] + best[1] + best[2] + best[3];
    }

    public int found(int body, int what) {
        if (!now.hasBody(body) || !in(what, 0, 1) && !in(what, 10, 13)) {
            return NONE;
        }
        int[] row = found(body);
        switch (what) {
            case 0:
                return row[3] == 0 ? 1 : 2;
            case 1:
                return row[0] + row[1] + row[2] + row[3];
            case 10:
                return row[0];
            case 11:
                return row[2];
            case 12:
                return row[1] == 0 ? NOT : row[1];
            default:
                return row[3] == 0 ? NOT : row[3];
        }
    }

    public long foundWrong(int body, int part) {
        if (!now.hasBody(body) || !in(part, 0, 1)) {
            return NO;
        }
        int[] row = found(body);
        return Fraction.of(product(row[0], row[1]), product(row[2], row[3])).minus(now.ratios.get(body)).part(part);
    }

    public int turn(int v) {
        if (!in(v, -99, 99) || v == 0) {
            return BAD;
        }
        if (!in(now.turn + v, -9999, 9999)) {
            return STATE;
        }
        now.turn += v;
        now.back = v < 0;
        return now.turn + 10000;
    }

    public int crank(int what) {
        return what == 0 ? now.turn + 10000 : what == 1 ? (now.back ? 1 : 0) : NONE;
    }

    public long stands(int body) {
        return now.hasTrain(body) ? now.stands(body) : NO;
    }

    public long meet(int one, int other) {
        if (!areTwo(one, other) || !now.hasTrain(one) || !now.hasTrain(other)) {
            return NO;
        }
        BigInteger first = now.turns(one).below();
        BigInteger second = now.turns(other).below();
        return first.multiply(second).divide(first.gcd(second)).longValueExact();
    }

    public int join(int one, int other, int d) {
        if (!areTwo(one, other)) {
            return NONE;
        }
        if (!in(d, 0, 499)) {
            return BAD;
        }
        if (!now.hasTrain(one) || !now.hasTrain(other)) {
            return STATE;
        }
        for (int n = 1; n <= 999; n++) {
            Fraction apart = now.part(one, now.turn + n).minus(now.part(other, now.turn + n)).size();
            Fraction around = Fraction.of(1, 1).minus(apart);
            Fraction least = apart.compareTo(around) < 0 ? apart : around;
            if (least.compareTo(Fraction.of(d, 1000)) <= 0) {
                return n;
            }
        }
        return NOT;
    }

    public long drift(int body, int n) {
        if (!now.hasTrain(body) || !in(n, 0, 9999)) {
            return NO;
        }
        return now.wrong(body).times(Fraction.of(1000L * n, 1)).cut();
    }

    public int were(int body, int k, long v, int what) {
        if (!now.hasBody(body) || !in(k, 0, 2) || !in(what, 0, 1)) {
            return NONE;
        }
        if (k >= now.trains.get(body).size()) {
            return STATE;
        }
        List<Integer> numbers = new ArrayList<>();
        for (int z = 10; z <= 99; z++) {
            State thought = now.copy();
            thought.pairs.get(now.trains.get(body).get(k)).driver = z;
            if (thought.stands(body) == v) {
                numbers.add(z);
            }
        }
        if (what == 0) {
            return numbers.size();
        }
        return numbers.isEmpty() ? NOT : numbers.get(0);
    }

    public long odds(int body, int seed, int m, int part) {
        if (!now.hasTrain(body) || !in(m, 1, 30) || !in(part, 0, 1)) {
            return NO;
        }
        int good = 0;
        for (int i = 0; i < m; i++) {
            BigInteger z = BigInteger.valueOf((long) seed + i);
            boolean slips = false;
            for (int pair : now.trains.get(body)) {
                z = z.multiply(BigInteger.valueOf(1103515245)).add(BigInteger.valueOf(12345));
                int high = z.and(BigInteger.valueOf(0xFFFFFFFFL)).shiftRight(16).intValue();
                slips |= high % 100 < now.pairs.get(pair).play();
            }
            good += slips ? 0 : 1;
        }
        return Fraction.of(good, m).part(part);
    }

    public int plan(int what, int v) {
        if (what == -1) {
            now.plan.clear();
            return 0;
        }
        if (!in(what, 0, 2)) {
            return NONE;
        }
        if (what == 0 && (!in(v, -99, 99) || v == 0) || what == 1 && !in(v, 0, 5) || what == 2 && !in(v, 0, 9)) {
            return BAD;
        }
        if (now.plan.size() == 8) {
            return FULL;
        }
        now.plan.add(new int[] {what, v});
        return now.plan.size();
    }

    public long ends(int what) {
        if (what != 0 && !(in(what, 10, 15) && now.hasTrain(what - 10))) {
            return NO;
        }
        State end = now.copy();
        for (int[] row : now.plan) {
            if (row[0] == 0) {
                end.turn += row[1];
                end.turn = end.turn > 9999 ? 9999 : end.turn < -9999 ? -9999 : end.turn;
                end.back = row[1] < 0;
            }
            if (row[0] == 1 && end.hasBody(row[1])) {
                java.util.Collections.reverse(end.trains.get(row[1]));
            }
            if (row[0] == 2 && end.hasPair(row[1])) {
                Pair pair = end.pairs.get(row[1]);
                int driver = pair.driver;
                pair.driver = pair.driven;
                pair.driven = driver;
            }
        }
        return what == 0 ? end.turn : end.stands(what - 10);
    }

    public int writePair(int pair) {
        if (!now.hasPair(pair)) {
            return NONE;
        }
        Pair which = now.pairs.get(pair);
        paper = LETTERS.charAt(which.kind) + "" + which.figure + " " + which.driver + "/" + which.driven;
        return paper.length();
    }

    public int writeTrain(int body) {
        if (!now.hasBody(body)) {
            return NONE;
        }
        if (!now.hasTrain(body)) {
            return STATE;
        }
        paper = "";
        for (int pair : now.trains.get(body)) {
            paper += "abcdefghij".charAt(pair);
        }
        return paper.length();
    }

    public int paper(int i) {
        return in(i, 0, paper.length() - 1) ? paper.charAt(i) : NONE;
    }

    public int judge(int list) {
        if (!in(list, 0, 3)) {
            return NONE;
        }
        if (lists[list] == null) {
            return -11;
        }
        for (int i = 0; i < lists[list].length; i++) {
            if (lists[list][i] != (now.hasTrain(i) ? now.stands(i) : 0)) {
                return i;
            }
        }
        return -5;
    }

    public int list(int list, int n) {
        if (!in(list, 0, 3)) {
            return NONE;
        }
        if (n > 12) {
            return BAD;
        }
        if (n < 0) {
            return -14;
        }
        lists[list] = new long[n];
        return 1;
    }

    public int put(int list, int i, long v) {
        if (!in(list, 0, 3)) {
            return NONE;
        }
        if (lists[list] == null) {
            return -11;
        }
        if (!in(i, 0, lists[list].length - 1)) {
            return -13;
        }
        lists[list][i] = v;
        return 1;
    }

    public long get(int list, int i) {
        return in(list, 0, 3) && lists[list] != null && in(i, 0, lists[list].length - 1) ? lists[list][i] : NO;
    }

    public int image() {
        image = now.copy();
        return now.ratios.size();
    }

    public int undo() {
        if (image == null) {
            return STATE;
        }
        now = image.copy();
        return now.ratios.size();
    }

    public int count(int what) {
        if (!in(what, 0, 6)) {
            return BAD;
        }
        int trains = (int) now.trains.stream().filter(train -> !train.isEmpty()).count();
        int[] all = {now.ratios.size(), now.pairs.size(), trains, now.wheels(), tape.length(), paper.length(), now.plan.size()};
        return all[what];
    }
}
