/**
 * Trains of toothed wheels for the bodies of an orrery. ../shared/DOC.md says what each call promises; words in
 * capitals in the comments are that document's terms.
 */
public final class OrreryTrains {
    public static final int NONE = -1, BAD = -2, STATE = -3, FULL = -4, NOT = -5;
    public static final long NO = Long.MIN_VALUE;

    private static final int NOTHING = -11, BEYOND = -13, BELOW = -14, FAULTY = -100, FAULTLESS = -1;
    private static final int MOST_BODIES = 6, MOST_PAIRS = 10, MOST_IN_TRAIN = 3, MOST_ROWS = 8;
    private static final int MOST_BYTES = 60, CLAUSE = 9, MOST_LISTS = 4, MOST_PLACES = 12;
    private static final int GREATEST = 9999, GREATEST_SPLIT_BY_PRIMES = 2047;
    private static final int FEWEST_TEETH = 10, MOST_TEETH = 99, WIDEST = 14;
    private static final int MOST_TURN = 9999, MOST_CRANKED = 99, MOST_JOIN = 999;
    private static final long MILLION = 1000000;

    /** Euclid's way of dividing two longs ends within 92 steps. */
    private static final int EUCLID_STEPS = 100;

    private static final int KINDS = 6, FILED = 1, PINNED = 2, WORN = 3, SPRUNG = 4, CROWNED = 5;
    private static final char[] KIND_LETTERS = {'c', 'f', 'p', 'w', 's', 'k'};

    /** All orders of three places, the first ones first; those of fewer places are among them. */
    private static final int[] ORDERS = {0, 1, 2, 0, 2, 1, 1, 0, 2, 1, 2, 0, 2, 0, 1, 2, 1, 0};

    private static final int CRANKS = 0, TURNS_ABOUT = 1, CHANGES_WHEELS = 2;

    private final Orrery now = new Orrery();
    private final Orrery kept = new Orrery();
    private final Orrery thought = new Orrery();
    private boolean imaged = false;
    private final Tape tape = new Tape();
    private final Sheet sheet = new Sheet();
    private final Rows rows = new Rows();
    private final Finder finder = new Finder();

    public OrreryTrains() {
    }

    // ---- bodies, ratios

    public int body(int a, int b) {
        if (!isRatio(a, b)) {
            return BAD;
        }
        if (now.bodies >= MOST_BODIES) {
            return FULL;
        }
        now.bodies++;
        now.wish(now.bodies - 1, a, b);
        return now.bodies - 1;
    }

    public int ratio(int body, int a, int b) {
        if (!now.hasBody(body)) {
            return NONE;
        }
        if (!isRatio(a, b)) {
            return BAD;
        }
        int before = 10000 * at(now.above, body) + at(now.below, body);
        now.wish(body, a, b);
        return before;
    }

    public int term(int body, int i) {
        if (!now.hasBody(body)) {
            return NONE;
        }
        int over = at(now.above, body);
        int under = at(now.below, body);
        int terms = 0;
        for (int step = 0; step < EUCLID_STEPS && under != 0; step++) {
            if (step == i) {
                return over / under;
            }
            int rest = over % under;
            over = under;
            under = rest;
            terms++;
        }
        return i == -1 ? terms : NOT;
    }

    public long convergent(int body, int i, int part) {
        if (!now.hasBody(body) || !isPart(part)) {
            return NO;
        }
        int over = at(now.above, body);
        int under = at(now.below, body);
        long above = 1;
        long below = 0;
        long earlierAbove = 0;
        long earlierBelow = 1;
        for (int step = 0; step < EUCLID_STEPS && under != 0; step++) {
            long term = over / under;
            long nextAbove = term * above + earlierAbove;
            long nextBelow = term * below + earlierBelow;
            if (step == i) {
                return lowest(nextAbove, nextBelow, part);
            }
            earlierAbove = above;
            earlierBelow = below;
            above = nextAbove;
            below = nextBelow;
            int rest = over % under;
            over = under;
            under = rest;
        }
        return NO;
    }

    public long near(int body, int n, int part) {
        if (!now.hasBody(body) || n < 1 || n > 99 || !isPart(part)) {
            return NO;
        }
        long a = at(now.above, body);
        long b = at(now.below, body);
        long bestAbove = quotient(a, b);
        long bestBelow = 1;
        for (long k = 1; k <= n; k++) {
            // only the two whole numbers around k times RATIO can be nearest
            long first = quotient(a * k, b);
            for (long h = first; h <= first + 1; h++) {
                if (Math.abs(h * b - a * k) * bestBelow < Math.abs(bestAbove * b - a * bestBelow) * k) {
                    bestAbove = h;
                    bestBelow = k;
                }
            }
        }
        return lowest(bestAbove, bestBelow, part);
    }

    // ---- teeth

    public int bounds(int least, int most) {
        if (!isTeeth(least) || !isTeeth(most) || most < least || most > least + WIDEST) {
            return BAD;
        }
        int before = 100 * now.least + now.most;
        now.least = least;
        now.most = most;
        return before;
    }

    public int split(int v, int m, int i) {
        if (v < 1 || v > GREATEST || m < 1 || m > 2) {
            return BAD;
        }
        int ways = 0;
        for (int lesser = now.least; lesser <= now.most; lesser++) {
            int way = m == 1 ? splitIntoOne(v, lesser) : splitIntoTwo(v, lesser);
            if (way == 0) {
                continue;
            }
            if (ways == i) {
                return way;
            }
            ways++;
        }
        return i == -1 ? ways : NOT;
    }

    public int prime(int v, int i) {
        if (v < 1 || v > GREATEST_SPLIT_BY_PRIMES) {
            return BAD;
        }
        int rest = v;
        int factor = 2;
        int primes = 0;
        for (int step = 0; step < 2 * GREATEST_SPLIT_BY_PRIMES && rest > 1 && factor > 1; step++) {
            if (rest % factor != 0) {
                factor++;
                continue;
            }
            if (primes == i) {
                return factor;
            }
            primes++;
            rest = rest / factor;
        }
        return i == -1 ? primes : NOT;
    }

    // ---- pairs

    public int feed(int letter) {
        if (letter < 1 || letter > 127) {
            return BAD;
        }
        if (tape.length >= MOST_BYTES) {
            return FULL;
        }
        set(tape.bytes, tape.length, letter);
        tape.length++;
        return tape.length;
    }

    public int pairs() {
        int fault = tape.faultAsPairs();
        int clauses = tape.clauses();
        tape.length = 0;
        if (fault != FAULTLESS) {
            return FAULTY - fault;
        }
        if (now.pairs.size + clauses > MOST_PAIRS) {
            return FULL;
        }
        for (int i = 0; i < clauses; i++) {
            tape.tellPair(i, now.pairs);
        }
        return now.pairs.size;
    }

    public int becomes(int pair, int kind, int figure) {
        if (!now.pairs.has(pair) || kind < 0 || kind >= KINDS) {
            return NONE;
        }
        if (figure < 0 || figure > 9) {
            return BAD;
        }
        int before = 10 * at(now.pairs.kinds, pair) + at(now.pairs.figures, pair);
        set(now.pairs.kinds, pair, kind);
        set(now.pairs.figures, pair, figure);
        return before;
    }

    public int teeth(int pair, int what, int v) {
        if (!now.pairs.has(pair) || what < 0 || what > 1) {
            return NONE;
        }
        if (!isTeeth(v)) {
            return BAD;
        }
        int[] wheels = what == 0 ? now.pairs.drivers : now.pairs.drivens;
        int before = at(wheels, pair);
        set(wheels, pair, v);
        return before;
    }

    public int pair(int pair, int what) {
        if (!now.pairs.has(pair)) {
            return NONE;
        }
        switch (what) {
            case 0:
                return at(now.pairs.kinds, pair);
            case 1:
                return at(now.pairs.figures, pair);
            case 2:
                return at(now.pairs.drivers, pair);
            case 3:
                return at(now.pairs.drivens, pair);
            case 4:
                return now.pairs.play(pair);
            case 5:
                return now.pairs.goesRound(pair) ? 1 : 0;
            case 6:
                return now.trains.holding(pair);
            default:
                return NONE;
        }
    }

    // ---- trains

    public int train(int body) {
        if (!now.hasBody(body)) {
            return NONE;
        }
        int fault = tape.faultAsTrain(now.pairs.size);
        int letters = tape.length;
        tape.length = 0;
        if (fault != FAULTLESS) {
            return FAULTY - fault;
        }
        now.trains.cut(body, letters);
        for (int k = 0; k < letters; k++) {
            now.trains.become(body, k, tape.pairTold(k));
        }
        return letters;
    }

    public int drop(int body) {
        if (!now.hasBody(body)) {
            return NONE;
        }
        if (!now.hasTrain(body)) {
            return STATE;
        }
        int before = now.trains.length(body);
        now.trains.cut(body, 0);
        return before;
    }

    public int of(int body, int what) {
        if (!now.hasBody(body) || !(what == 0 || what == 1 || asksPlace(what))) {
            return NONE;
        }
        if (what == 0) {
            return now.trains.length(body);
        }
        if (what == 1) {
            return now.isRound(body) ? 1 : 0;
        }
        return what - 10 < now.trains.length(body) ? now.trains.pairAt(body, what - 10) : NOT;
    }

    public long turns(int body, int part) {
        if (!now.hasTrain(body) || !isPart(part)) {
            return NO;
        }
        return lowest(now.drivers(body), now.drivens(body), part);
    }

    public long wrong(int body, int part) {
        if (!now.hasTrain(body) || !isPart(part)) {
            return NO;
        }
        return lowest(now.wrongAbove(body), now.wrongBelow(body), part);
    }

    public long backlash(int body, int part) {
        if (!now.hasTrain(body) || !isPart(part)) {
            return NO;
        }
        return lowest(now.slackAbove(body), now.slackBelow(body), part);
    }

    public int share(int one, int other) {
        if (!areTwo(one, other)) {
            return NONE;
        }
        if (!now.hasTrain(one) || !now.hasTrain(other)) {
            return STATE;
        }
        return now.trains.shared(one, other);
    }

    public int order(int body, int what) {
        if (!now.hasBody(body) || !(what == 0 || asksPlace(what))) {
            return NONE;
        }
        if (!now.hasTrain(body)) {
            return STATE;
        }
        int best = bestOrder(body);
        if (what == 0) {
            return wheelsBy(body, best);
        }
        if (what - 10 >= now.trains.length(body)) {
            return NOT;
        }
        return now.trains.pairAt(body, placeBy(best, what - 10));
    }

    public int found(int body, int what) {
        boolean asksWheel = what >= 10 && what <= 13;
        if (!now.hasBody(body) || !(what == 0 || what == 1 || asksWheel)) {
            return NONE;
        }
        finder.seek(at(now.above, body), at(now.below, body), now.least, now.most);
        if (what == 0) {
            return finder.isOnePair() ? 1 : 2;
        }
        if (what == 1) {
            return finder.allTeeth();
        }
        if (what >= 12 && finder.isOnePair()) {
            return NOT;
        }
        return finder.wheel(what - 10);
    }

    public long foundWrong(int body, int part) {
        if (!now.hasBody(body) || !isPart(part)) {
            return NO;
        }
        finder.seek(at(now.above, body), at(now.below, body), now.least, now.most);
        return lowest(finder.wrongAbove(), finder.wrongBelow(), part);
    }

    // ---- the crank

    public int turn(int v) {
        if (!isCranked(v)) {
            return BAD;
        }
        if (now.turn + v < -MOST_TURN || now.turn + v > MOST_TURN) {
            return STATE;
        }
        now.crankBy(v);
        return now.turn + 10000;
    }

    public int crank(int what) {
        if (what == 0) {
            return now.turn + 10000;
        }
        if (what == 1) {
            return now.back ? 1 : 0;
        }
        return NONE;
    }

    public long stands(int body) {
        return now.hasTrain(body) ? now.standing(body) : NO;
    }

    public long meet(int one, int other) {
        if (!areTwo(one, other) || !now.hasTrain(one) || !now.hasTrain(other)) {
            return NO;
        }
        long first = lowest(now.drivers(one), now.drivens(one), 1);
        long second = lowest(now.drivers(other), now.drivens(other), 1);
        return first * quotient(second, greatestCommon(first, second));
    }

    public int join(int one, int other, int d) {
        if (!areTwo(one, other)) {
            return NONE;
        }
        if (d < 0 || d > 499) {
            return BAD;
        }
        if (!now.hasTrain(one) || !now.hasTrain(other)) {
            return STATE;
        }
        return turnsUntilJoined(one, other, d);
    }

    public long drift(int body, int n) {
        if (!now.hasTrain(body) || n < 0 || n > GREATEST) {
            return NO;
        }
        return quotient(1000L * n * now.wrongAbove(body), now.wrongBelow(body));
    }

    // ---- what it was, odds, plans

    public int were(int body, int k, long v, int what) {
        if (!now.hasBody(body) || k < 0 || k >= MOST_IN_TRAIN || what < 0 || what > 1) {
            return NONE;
        }
        if (k >= now.trains.length(body)) {
            return STATE;
        }
        thought.copyFrom(now);
        int pair = now.trains.pairAt(body, k);
        int numbers = 0;
        int least = NOT;
        for (int teeth = MOST_TEETH; teeth >= FEWEST_TEETH; teeth--) {
            set(thought.pairs.drivers, pair, teeth);
            if (thought.standing(body) == v) {
                numbers++;
                least = teeth;
            }
        }
        return what == 0 ? numbers : least;
    }

    public long odds(int body, int seed, int m, int part) {
        if (!now.hasTrain(body) || m < 1 || m > 30 || !isPart(part)) {
            return NO;
        }
        int held = 0;
        for (int i = 0; i < m; i++) {
            if (!now.slips(body, seed + i)) {
                held++;
            }
        }
        return lowest(held, m, part);
    }

    public int plan(int what, int v) {
        if (what == -1) {
            now.plan.size = 0;
            return 0;
        }
        if (what < CRANKS || what > CHANGES_WHEELS) {
            return NONE;
        }
        if (!isPlanned(what, v)) {
            return BAD;
        }
        if (now.plan.size >= MOST_ROWS) {
            return FULL;
        }
        now.plan.add(what, v);
        return now.plan.size;
    }

    public long ends(int what) {
        boolean asksBody = what >= 10 && what < 10 + MOST_BODIES;
        if (what != 0 && !(asksBody && now.hasTrain(what - 10))) {
            return NO;
        }
        thought.copyFrom(now);
        thought.followPlan();
        return what == 0 ? thought.turn : thought.standing(what - 10);
    }

    // ---- written

    public int writePair(int pair) {
        if (!now.pairs.has(pair)) {
            return NONE;
        }
        sheet.length = 0;
        sheet.add(kindLetter(at(now.pairs.kinds, pair)));
        sheet.add('0' + at(now.pairs.figures, pair));
        sheet.add(' ');
        sheet.addTwoFigures(at(now.pairs.drivers, pair));
        sheet.add('/');
        sheet.addTwoFigures(at(now.pairs.drivens, pair));
        return sheet.length;
    }

    public int writeTrain(int body) {
        if (!now.hasBody(body)) {
            return NONE;
        }
        if (!now.hasTrain(body)) {
            return STATE;
        }
        sheet.length = 0;
        for (int k = 0; k < now.trains.length(body); k++) {
            sheet.add('a' + now.trains.pairAt(body, k));
        }
        return sheet.length;
    }

    public int paper(int i) {
        return i >= 0 && i < sheet.length ? at(sheet.bytes, i) : NONE;
    }

    // ---- lists, the image

    public int judge(int list) {
        if (!rows.has(list)) {
            return NONE;
        }
        if (!rows.isHeld(list)) {
            return NOTHING;
        }
        for (int i = 0; i < rows.size(list); i++) {
            long due = now.hasTrain(i) ? now.standing(i) : 0;
            if (rows.cell(list, i) != due) {
                return i;
            }
        }
        return NOT;
    }

    public int list(int list, int n) {
        if (!rows.has(list)) {
            return NONE;
        }
        if (n > MOST_PLACES) {
            return BAD;
        }
        if (n < 0) {
            return BELOW;
        }
        rows.hold(list, n);
        return 1;
    }

    public int put(int list, int i, long v) {
        if (!rows.has(list)) {
            return NONE;
        }
        if (!rows.isHeld(list)) {
            return NOTHING;
        }
        if (i < 0 || i >= rows.size(list)) {
            return BEYOND;
        }
        rows.fill(list, i, v);
        return 1;
    }

    public long get(int list, int i) {
        if (!rows.has(list) || i < 0 || i >= rows.size(list)) {
            return NO;
        }
        return rows.cell(list, i);
    }

    public int image() {
        kept.copyFrom(now);
        imaged = true;
        return now.bodies;
    }

    public int undo() {
        if (!imaged) {
            return STATE;
        }
        now.copyFrom(kept);
        return now.bodies;
    }

    public int count(int what) {
        switch (what) {
            case 0:
                return now.bodies;
            case 1:
                return now.pairs.size;
            case 2:
                return now.trains.number();
            case 3:
                return now.trains.wheels();
            case 4:
                return tape.length;
            case 5:
                return sheet.length;
            case 6:
                return now.plan.size;
            default:
                return BAD;
        }
    }

    // what the calls have in common

    private boolean areTwo(int one, int other) {
        return now.hasBody(one) && now.hasBody(other) && one != other;
    }

    private int splitIntoOne(int v, int number) {
        return v == number ? v : 0;
    }

    private int splitIntoTwo(int v, int lesser) {
        if (lesser < 1 || v % lesser != 0) {
            return 0;
        }
        int greater = v / lesser;
        return greater >= lesser && greater <= now.most ? 100 * lesser + greater : 0;
    }

    private int bestOrder(int body) {
        int best = 0;
        int fewest = wheelsBy(body, 0);
        for (int order = 1; order < ORDERS.length / MOST_IN_TRAIN; order++) {
            if (isOrderOf(order, now.trains.length(body))) {
                int wheels = wheelsBy(body, order);
                if (wheels < fewest) {
                    best = order;
                    fewest = wheels;
                }
            }
        }
        return best;
    }

    private int wheelsBy(int body, int order) {
        thought.copyFrom(now);
        for (int k = 0; k < now.trains.length(body); k++) {
            thought.trains.become(body, k, now.trains.pairAt(body, placeBy(order, k)));
        }
        return thought.trains.wheels();
    }

    private int turnsUntilJoined(int one, int other, int d) {
        long circleOfOne = now.drivens(one);
        long circleOfOther = now.drivens(other);
        if (circleOfOne < 1 || circleOfOther < 1) {
            return NOT;
        }
        long stepOfOne = now.isRound(one) ? -now.drivers(one) : now.drivers(one);
        long stepOfOther = now.isRound(other) ? -now.drivers(other) : now.drivers(other);
        long circle = circleOfOne * circleOfOther;
        for (int n = 1; n <= MOST_JOIN; n++) {
            long partOfOne = Math.floorMod((now.turn + n) * stepOfOne, circleOfOne);
            long partOfOther = Math.floorMod((now.turn + n) * stepOfOther, circleOfOther);
            long apart = Math.abs(partOfOne * circleOfOther - partOfOther * circleOfOne);
            if (Math.min(apart, circle - apart) * 1000 <= d * circle) {
                return n;
            }
        }
        return NOT;
    }

    private static boolean isRatio(int a, int b) {
        return a >= 1 && a <= GREATEST && b >= 1 && b <= GREATEST;
    }

    private static boolean isPart(int part) {
        return part == 0 || part == 1;
    }

    private static boolean isTeeth(int v) {
        return v >= FEWEST_TEETH && v <= MOST_TEETH;
    }

    private static boolean isCranked(int v) {
        return v >= -MOST_CRANKED && v <= MOST_CRANKED && v != 0;
    }

    private static boolean isPlanned(int what, int v) {
        if (what == CRANKS) {
            return isCranked(v);
        }
        return v >= 0 && v < (what == TURNS_ABOUT ? MOST_BODIES : MOST_PAIRS);
    }

    private static boolean asksPlace(int what) {
        return what >= 10 && what < 10 + MOST_IN_TRAIN;
    }

    private static boolean isOrderOf(int order, int places) {
        for (int k = 0; k < places; k++) {
            if (placeBy(order, k) >= places) {
                return false;
            }
        }
        return true;
    }

    private static int placeBy(int order, int k) {
        return at(ORDERS, order * MOST_IN_TRAIN + k);
    }

    private static int kindLetter(int kind) {
        return kind >= 0 && kind < KIND_LETTERS.length ? KIND_LETTERS[kind] : 0;
    }

    private static int kindOf(int letter) {
        for (int kind = 0; kind < KIND_LETTERS.length; kind++) {
            if (KIND_LETTERS[kind] == letter) {
                return kind;
            }
        }
        return NONE;
    }

    private static int at(int[] row, int i) {
        return i >= 0 && i < row.length ? row[i] : 0;
    }

    private static void set(int[] row, int i, int v) {
        if (i >= 0 && i < row.length) {
            row[i] = v;
        }
    }

    private static void copy(int[] from, int[] to) {
        for (int i = 0; i < from.length && i < to.length; i++) {
            to[i] = from[i];
        }
    }

    private static long quotient(long above, long below) {
        return below == 0 ? 0 : above / below;
    }

    private static long lowest(long above, long below, int part) {
        long common = greatestCommon(Math.abs(above), below);
        return quotient(part == 0 ? above : below, common);
    }

    private static long greatestCommon(long one, long other) {
        long over = one;
        long under = other;
        for (int step = 0; step < EUCLID_STEPS && under != 0; step++) {
            long rest = over % under;
            over = under;
            under = rest;
        }
        return over;
    }

    /** All that THE IMAGE holds. */
    private static final class Orrery {
        int bodies = 0;
        final int[] above = new int[MOST_BODIES];
        final int[] below = new int[MOST_BODIES];
        int least = 20;
        int most = 30;
        final Pairs pairs = new Pairs();
        final Trains trains = new Trains();
        int turn = 0;
        boolean back = false;
        final Plan plan = new Plan();

        void copyFrom(Orrery other) {
            bodies = other.bodies;
            copy(other.above, above);
            copy(other.below, below);
            least = other.least;
            most = other.most;
            pairs.copyFrom(other.pairs);
            trains.copyFrom(other.trains);
            turn = other.turn;
            back = other.back;
            plan.copyFrom(other.plan);
        }

        boolean hasBody(int body) {
            return body >= 0 && body < bodies;
        }

        boolean hasTrain(int body) {
            return hasBody(body) && trains.length(body) > 0;
        }

        void wish(int body, int a, int b) {
            set(above, body, (int) lowest(a, b, 0));
            set(below, body, (int) lowest(a, b, 1));
        }

        /** p, by which and q the BODY's TRAIN TURNS. */
        long drivers(int body) {
            long product = 1;
            for (int k = 0; k < trains.length(body); k++) {
                product *= at(pairs.drivers, trains.pairAt(body, k));
            }
            return product;
        }

        long drivens(int body) {
            long product = 1;
            for (int k = 0; k < trains.length(body); k++) {
                product *= at(pairs.drivens, trains.pairAt(body, k));
            }
            return product;
        }

        long wrongAbove(int body) {
            return drivers(body) * at(below, body) - at(above, body) * drivens(body);
        }

        long wrongBelow(int body) {
            return drivens(body) * at(below, body);
        }

        boolean isRound(int body) {
            boolean round = false;
            for (int k = 0; k < trains.length(body); k++) {
                if (pairs.goesRound(trains.pairAt(body, k))) {
                    round = !round;
                }
            }
            return round;
        }

        /** BACKLASH, with slackBelow below the line. */
        long slackAbove(int body) {
            long slack = 0;
            long ahead = 1;
            // each further PAIR drives on the play that came so far, and its own comes by the DRIVENS ahead of it
            for (int k = 0; k < trains.length(body); k++) {
                int pair = trains.pairAt(body, k);
                slack = slack * at(pairs.drivers, pair) + pairs.play(pair) * ahead;
                ahead *= at(pairs.drivens, pair);
            }
            return slack;
        }

        long slackBelow(int body) {
            return 100 * drivens(body);
        }

        long standing(int body) {
            long place = quotient(MILLION * turn * drivers(body), drivens(body));
            if (back) {
                place += quotient(MILLION * slackAbove(body), slackBelow(body));
            }
            return isRound(body) ? -place : place;
        }

        boolean slips(int body, int seed) {
            int z = seed;
            for (int k = 0; k < trains.length(body); k++) {
                z = z * 1103515245 + 12345;
                if ((z >>> 16) % 100 < pairs.play(trains.pairAt(body, k))) {
                    return true;
                }
            }
            return false;
        }

        void crankBy(int v) {
            turn = Math.max(-MOST_TURN, Math.min(MOST_TURN, turn + v));
            back = v < 0;
        }

        void followPlan() {
            for (int row = 0; row < plan.size; row++) {
                int what = at(plan.whats, row);
                int v = at(plan.values, row);
                if (what == CRANKS) {
                    crankBy(v);
                } else if (what == TURNS_ABOUT && hasTrain(v)) {
                    trains.turnAbout(v);
                } else if (what == CHANGES_WHEELS && pairs.has(v)) {
                    pairs.changeWheels(v);
                }
            }
        }
    }

    private static final class Pairs {
        int size = 0;
        final int[] kinds = new int[MOST_PAIRS];
        final int[] figures = new int[MOST_PAIRS];
        final int[] drivers = new int[MOST_PAIRS];
        final int[] drivens = new int[MOST_PAIRS];

        void copyFrom(Pairs other) {
            size = other.size;
            copy(other.kinds, kinds);
            copy(other.figures, figures);
            copy(other.drivers, drivers);
            copy(other.drivens, drivens);
        }

        boolean has(int pair) {
            return pair >= 0 && pair < size;
        }

        void add(int kind, int figure, int driver, int driven) {
            set(kinds, size, kind);
            set(figures, size, figure);
            set(drivers, size, driver);
            set(drivens, size, driven);
            size++;
        }

        boolean goesRound(int pair) {
            return at(kinds, pair) != CROWNED;
        }

        int play(int pair) {
            int figure = at(figures, pair);
            switch (at(kinds, pair)) {
                case FILED:
                    return figure + 3;
                case PINNED:
                    return figure / 2;
                case WORN:
                    return 2 * (figure + 3);
                case SPRUNG:
                    return figure % 2 == 0 ? 0 : figure / 2;
                default:
                    return figure;
            }
        }

        void changeWheels(int pair) {
            int driver = at(drivers, pair);
            set(drivers, pair, at(drivens, pair));
            set(drivens, pair, driver);
        }
    }

    private static final class Trains {
        /** How many PAIRS the TRAIN of each BODY has; 0: it has none. */
        private final int[] lengths = new int[MOST_BODIES];
        private final int[] places = new int[MOST_BODIES * MOST_IN_TRAIN];

        void copyFrom(Trains other) {
            copy(other.lengths, lengths);
            copy(other.places, places);
        }

        int length(int body) {
            return at(lengths, body);
        }

        int pairAt(int body, int k) {
            return at(places, body * MOST_IN_TRAIN + k);
        }

        void cut(int body, int length) {
            set(lengths, body, length);
        }

        void become(int body, int k, int pair) {
            set(places, body * MOST_IN_TRAIN + k, pair);
        }

        void turnAbout(int body) {
            int last = length(body) - 1;
            int first = pairAt(body, 0);
            become(body, 0, pairAt(body, last));
            become(body, last, first);
        }

        int number() {
            int number = 0;
            for (int body = 0; body < MOST_BODIES; body++) {
                if (length(body) > 0) {
                    number++;
                }
            }
            return number;
        }

        int holding(int pair) {
            int trains = 0;
            for (int body = 0; body < MOST_BODIES; body++) {
                for (int k = 0; k < length(body); k++) {
                    if (pairAt(body, k) == pair) {
                        trains++;
                    }
                }
            }
            return trains;
        }

        int shared(int one, int other) {
            int most = Math.min(length(one), length(other));
            for (int k = 0; k < most; k++) {
                if (pairAt(one, k) != pairAt(other, k)) {
                    return k;
                }
            }
            return most;
        }

        int wheels() {
            int wheels = 0;
            for (int body = 0; body < MOST_BODIES; body++) {
                int counted = 0;
                for (int earlier = 0; earlier < body; earlier++) {
                    counted = Math.max(counted, shared(body, earlier));
                }
                wheels += 2 * (length(body) - counted);
            }
            return wheels;
        }
    }

    private static final class Plan {
        int size = 0;
        final int[] whats = new int[MOST_ROWS];
        final int[] values = new int[MOST_ROWS];

        void copyFrom(Plan other) {
            size = other.size;
            copy(other.whats, whats);
            copy(other.values, values);
        }

        void add(int what, int v) {
            set(whats, size, what);
            set(values, size, v);
            size++;
        }
    }

    /** THE TAPE. */
    private static final class Tape {
        int length = 0;
        final int[] bytes = new int[MOST_BYTES];

        int clauses() {
            return (length + 1) / CLAUSE;
        }

        int faultAsPairs() {
            for (int i = 0; i < length; i++) {
                if (!fitsClause(i % CLAUSE, at(bytes, i))) {
                    return i;
                }
            }
            // a whole clause ends just ahead of the place of its ;
            return length % CLAUSE == CLAUSE - 1 ? FAULTLESS : length;
        }

        private static boolean fitsClause(int place, int letter) {
            switch (place) {
                case 0:
                    return kindOf(letter) != NONE;
                case 2:
                    return letter == ' ';
                case 3:
                case 6:
                    return letter >= '1' && letter <= '9';
                case 5:
                    return letter == '/';
                case 8:
                    return letter == ';';
                default:
                    return letter >= '0' && letter <= '9';
            }
        }

        void tellPair(int clause, Pairs pairs) {
            int start = clause * CLAUSE;
            pairs.add(kindOf(at(bytes, start)), figureAt(start + 1), numberAt(start + 3), numberAt(start + 6));
        }

        private int figureAt(int i) {
            return at(bytes, i) - '0';
        }

        private int numberAt(int i) {
            return 10 * figureAt(i) + figureAt(i + 1);
        }

        int pairTold(int i) {
            return at(bytes, i) - 'a';
        }

        int faultAsTrain(int pairs) {
            for (int i = 0; i < length; i++) {
                int pair = pairTold(i);
                if (i >= MOST_IN_TRAIN || pair < 0 || pair >= pairs || isToldAhead(i)) {
                    return i;
                }
            }
            return length == 0 ? 0 : FAULTLESS;
        }

        private boolean isToldAhead(int i) {
            for (int earlier = 0; earlier < i; earlier++) {
                if (at(bytes, earlier) == at(bytes, i)) {
                    return true;
                }
            }
            return false;
        }
    }

    /** THE PAPER. */
    private static final class Sheet {
        int length = 0;
        final int[] bytes = new int[CLAUSE];

        void add(int letter) {
            set(bytes, length, letter);
            length++;
        }

        void addTwoFigures(int v) {
            add('0' + v / 10);
            add('0' + v % 10);
        }
    }

    /** The LISTS. */
    private static final class Rows {
        /** One more than the size of each LIST; 0: it holds nothing. */
        private final int[] sizes = new int[MOST_LISTS];
        private final long[] cells = new long[MOST_LISTS * MOST_PLACES];

        boolean has(int list) {
            return list >= 0 && list < MOST_LISTS;
        }

        boolean isHeld(int list) {
            return at(sizes, list) > 0;
        }

        int size(int list) {
            return isHeld(list) ? at(sizes, list) - 1 : 0;
        }

        void hold(int list, int n) {
            set(sizes, list, n + 1);
            for (int i = 0; i < n; i++) {
                fill(list, i, 0);
            }
        }

        long cell(int list, int i) {
            int place = list * MOST_PLACES + i;
            return place >= 0 && place < cells.length ? cells[place] : 0;
        }

        void fill(int list, int i, long v) {
            int place = list * MOST_PLACES + i;
            if (place >= 0 && place < cells.length) {
                cells[place] = v;
            }
        }
    }

    /** Seeks FOUND. */
    private static final class Finder {
        private long above = 0;
        private long below = 0;
        private int least = 0;
        private int most = 0;
        /** A greater wheel of 0 teeth stands for none: there is one PAIR alone. */
        private int lesserDriver = 0;
        private int greaterDriver = 0;
        private int lesserDriven = 0;
        private int greaterDriven = 0;
        /** What the best train so far TURNS by, less RATIO, is off by (drivens times below). */
        private long off = 0;
        private long drivens = 0;

        void seek(int a, int b, int fewest, int greatest) {
            // what was sought last is still known, and is often asked wheel by wheel
            if (a == above && b == below && fewest == least && greatest == most) {
                return;
            }
            above = a;
            below = b;
            least = fewest;
            most = greatest;
            // 1 by 0 is farther off than any train
            off = 1;
            drivens = 0;
            seekOnePair();
            seekTwoPairs();
        }

        boolean isOnePair() {
            return greaterDriver == 0;
        }

        int allTeeth() {
            return lesserDriver + greaterDriver + lesserDriven + greaterDriven;
        }

        int wheel(int i) {
            switch (i) {
                case 0:
                    return lesserDriver;
                case 1:
                    return lesserDriven;
                case 2:
                    return greaterDriver;
                default:
                    return greaterDriven;
            }
        }

        long wrongAbove() {
            return off;
        }

        long wrongBelow() {
            return drivens * below;
        }

        private void seekOnePair() {
            for (int driver = least; driver <= most; driver++) {
                for (int driven = least; driven <= most; driven++) {
                    offer(driver, 0, driven, 0);
                }
            }
        }

        private void seekTwoPairs() {
            for (int driver = least; driver <= most; driver++) {
                for (int driven = least; driven <= most; driven++) {
                    for (int other = driven; other <= most; other++) {
                        offerFourth(driver, driven, other);
                    }
                }
            }
        }

        /** Of all numbers for the greater DRIVER only the two around the one that is due can be best. */
        private void offerFourth(int driver, int driven, int other) {
            long due = quotient(above * driven * other, below * driver);
            int first = within(due, driver, most);
            int second = within(due + 1, driver, most);
            offer(driver, first, driven, other);
            if (second != first) {
                offer(driver, second, driven, other);
            }
        }

        private void offer(int driver, int otherDriver, int driven, int otherDriven) {
            long newDrivens = product(driven, otherDriven);
            long newOff = product(driver, otherDriver) * below - above * newDrivens;
            long far = Math.abs(newOff) * drivens;
            long farSoFar = Math.abs(off) * newDrivens;
            if (far < farSoFar || far == farSoFar && isAhead(driver, otherDriver, driven, otherDriven)) {
                lesserDriver = driver;
                greaterDriver = otherDriver;
                lesserDriven = driven;
                greaterDriven = otherDriven;
                off = newOff;
                drivens = newDrivens;
            }
        }

        /** Whether of two that are as near this one is ahead of the best so far. */
        private boolean isAhead(int driver, int otherDriver, int driven, int otherDriven) {
            if ((otherDriver == 0) != isOnePair()) {
                return otherDriver == 0;
            }
            int teeth = driver + otherDriver + driven + otherDriven;
            if (teeth != allTeeth()) {
                return teeth < allTeeth();
            }
            if (driver != lesserDriver) {
                return driver < lesserDriver;
            }
            if (otherDriver != greaterDriver) {
                return otherDriver < greaterDriver;
            }
            // the greater DRIVEN is told by the others when all teeth are as many
            return driven < lesserDriven;
        }

        private static long product(int wheel, int other) {
            return other == 0 ? wheel : (long) wheel * other;
        }

        private static int within(long v, int fewest, int greatest) {
            return (int) Math.max(fewest, Math.min(greatest, v));
        }
    }
}
