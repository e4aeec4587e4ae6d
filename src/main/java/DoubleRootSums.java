import java.util.Arrays;

/**
 * Sums of told terms that have a double root, all MODULO a PRIME. The words in capitals are those of
 * ../shared/DOC.md.
 */
public final class DoubleRootSums {
    public static final int NONE = -1, BAD = -2, STATE = -3, FULL = -4;
    public static final long NO = Long.MIN_VALUE;

    private static final int NO_ONE = -5, NOTHING = -11, PLACE = -13, SIZE = -14;
    private static final int FAULTY = -100;
    private static final int[] PRIMES = {5, 7, 11, 13, 17, 19, 23, 29, 31};
    private static final int SUPPORTS = 6, SUMS = 6, EXPONENTS = 6, SEEN_ROWS = 4, KINDS = 6;
    private static final int TOP_EXPONENT = 12, TOP_FIGURE = 9, TOP_TOLD = 99, TOP_NUMBER = 30;
    private static final int TOP_PRIME_OF_ALL = 13;
    private static final int ORDER_OF_NOTHING = 99;
    private static final int PRIME_STEP = 0, NUMBER_STEP = 1, TURN_STEP = 2;

    private final Stock now;
    private final Stock kept;
    private boolean hasImage;
    private final Field field;
    private final Exponents exponents;
    private final Terms terms;
    private final Lowered lowered;
    private final Matrix matrix;
    private final Form form;
    private final Steps steps;
    private final Lists lists;
    private final SetUp text;
    private final StringBuilder written;
    private final Failures failures;
    /** What is TOLD of a SUM that is to come, by EXPONENT; one place more than there may be EXPONENTS. */
    private final int[] fresh;

    public DoubleRootSums() {
        now = new Stock();
        kept = new Stock();
        field = new Field();
        exponents = new Exponents();
        terms = new Terms(field);
        lowered = new Lowered(field);
        matrix = new Matrix(field);
        form = new Form(field);
        steps = new Steps();
        lists = new Lists();
        text = new SetUp();
        written = new StringBuilder();
        failures = new Failures();
        fresh = new int[TOP_EXPONENT + 2];
    }

    public int prime(int k) {
        if (k < 0 || k >= PRIMES.length) {
            return NONE;
        }
        int was = now.prime;
        steps.push(PRIME_STEP, was, 0, 0);
        now.prime = k;
        return was;
    }

    public int support(int bits) {
        if (bits < 0 || bits >> (TOP_EXPONENT + 1) != 0 || !isMany(Integer.bitCount(bits))) {
            return BAD;
        }
        if (now.supports >= SUPPORTS) {
            return FULL;
        }
        steps.clear();
        return now.addSupport(bits);
    }

    public int ofSupport(int support, int what) {
        if (!isSupport(support)) {
            return NONE;
        }
        exponents.become(now.bits[support]);
        switch (what) {
            case 0:
                return now.bits[support];
            case 1:
                return exponents.many;
            case 2:
                return exponents.span();
            case 3:
                return exponents.step();
            case 4:
                return exponents.area();
            case 5:
                return exponents.degree();
            case 6:
                return exponents.relations();
            default:
                return NONE;
        }
    }

    public int relation(int support, int i, int e) {
        if (!isSupport(support)) {
            return NONE;
        }
        exponents.become(now.bits[support]);
        int place = exponents.placeOf(e);
        if (i < 0 || i >= exponents.relations() || place < 0) {
            return NONE;
        }
        return 100 + exponents.relationAt(i, place);
    }

    public int sum(int support, int kind, int figure) {
        if (!isSupport(support) || !isKind(kind)) {
            return NONE;
        }
        if (!isFigure(figure)) {
            return BAD;
        }
        if (now.sums >= SUMS) {
            return FULL;
        }
        steps.clear();
        return now.addSum(support, kind, figure);
    }

    public int number(int sum, int e, int v) {
        if (!isExponentOf(sum, e)) {
            return NONE;
        }
        if (v < 0 || v > TOP_TOLD) {
            return BAD;
        }
        int was = now.told[sum][e];
        steps.push(NUMBER_STEP, sum, e, was);
        now.told[sum][e] = v;
        return was;
    }

    public int turn(int sum, int kind, int figure) {
        if (!isSum(sum) || !isKind(kind)) {
            return NONE;
        }
        if (!isFigure(figure)) {
            return BAD;
        }
        int kindWas = now.kind[sum];
        int figureWas = now.figure[sum];
        steps.push(TURN_STEP, sum, kindWas, figureWas);
        now.kind[sum] = kind;
        now.figure[sum] = figure;
        return 10 * kindWas + figureWas;
    }

    public int ofSum(int sum, int what) {
        if (!isSum(sum)) {
            return NONE;
        }
        lookAt(sum);
        switch (what) {
            case 0:
                return now.supportOf[sum];
            case 1:
                return now.kind[sum];
            case 2:
                return now.figure[sum];
            case 3:
                return terms.roots();
            case 4:
                return terms.doubles();
            case 5:
                return terms.notZero();
            case 6:
                lowered.become(terms);
                lowered.findCommon();
                return lowered.commonTop < 0 ? NO_ONE : lowered.commonTop;
            default:
                return NONE;
        }
    }

    public int at(int sum, int e, int what) {
        if (!isExponentOf(sum, e)) {
            return NONE;
        }
        if (what == 0) {
            return now.told[sum][e];
        }
        if (what == 1) {
            lookAt(sum);
            return terms.numberAt(terms.exponents.placeOf(e));
        }
        return NONE;
    }

    public int value(int sum, int x, int what) {
        if (!isSum(sum) || x < 0 || x >= now.modulus()) {
            return NONE;
        }
        lookAt(sum);
        if (what == 0) {
            return terms.valueAt(x);
        }
        if (what == 1) {
            return terms.slopeAt(x);
        }
        if (what == 2 && x != 0) {
            lowered.become(terms);
            return lowered.orderAt(x);
        }
        return NONE;
    }

    public int common(int sum, int i) {
        if (!isSum(sum) || i < 0) {
            return NONE;
        }
        lookAt(sum);
        lowered.become(terms);
        lowered.findCommon();
        if (lowered.commonTop < 0) {
            return NO_ONE;
        }
        return i > lowered.commonTop ? 0 : lowered.commonAt(i);
    }

    public int row(int sum, int i, int j) {
        if (!isSum(sum)) {
            return NONE;
        }
        lookAt(sum);
        lowered.become(terms);
        int size = 2 * lowered.span - 1;
        if (i < 0 || i >= size || j < 0 || j >= size) {
            return NONE;
        }
        return matrix.cellOf(lowered, i, j);
    }

    public int resultant(int sum) {
        if (!isSum(sum)) {
            return NONE;
        }
        lookAt(sum);
        return resultantOfTerms();
    }

    public int formed(int support, int x, int list) {
        if (!isSupport(support) || !lists.isList(list)) {
            return NONE;
        }
        if (!isPoint(x)) {
            return BAD;
        }
        if (!lists.holds(list)) {
            return NOTHING;
        }
        exponents.become(now.bits[support]);
        if (lists.sizeOf(list) < exponents.relations()) {
            return PLACE;
        }
        if (now.sums >= SUMS) {
            return FULL;
        }
        makeFormed(x, list);
        return bringSum(support);
    }

    public int isFormed(int sum, int x) {
        if (!isSum(sum)) {
            return NONE;
        }
        if (!isPoint(x)) {
            return BAD;
        }
        lookAt(sum);
        return form.solve(terms, x) ? 1 : 0;
    }

    public int by(int sum, int x, int i) {
        if (!isSum(sum)) {
            return NONE;
        }
        lookAt(sum);
        if (i < 0 || i >= terms.exponents.relations()) {
            return NONE;
        }
        if (!isPoint(x)) {
            return BAD;
        }
        return form.solve(terms, x) ? form.byOf(i) : NO_ONE;
    }

    public int tried(int sum, int x) {
        if (!isSum(sum)) {
            return NONE;
        }
        if (!isPoint(x)) {
            return BAD;
        }
        lookAt(sum);
        failures.clear();
        int trial = firstFailingTrial(x);
        if (trial != 0) {
            noteFailures(sum, x, trial);
        }
        return trial;
    }

    public int reason(int i, int what) {
        if (i < 0 || i >= failures.many || what < 0 || what > 1) {
            return NONE;
        }
        return what == 0 ? failures.kinds[i] : failures.numbers[i];
    }

    public int turned(int sum) {
        if (!isSum(sum)) {
            return NONE;
        }
        lookAt(sum);
        Exponents had = terms.exponents;
        int ends = had.first() + had.last();
        int bits = 0;
        Arrays.fill(fresh, 0);
        for (int place = 0; place < had.many; place++) {
            int e = ends - had.exponentAt(place);
            bits |= 1 << e;
            setFresh(e, terms.numberAt(place));
        }
        return bringSumOfBits(bits);
    }

    public int times(int sum, int x) {
        if (!isSum(sum)) {
            return NONE;
        }
        if (x < 0 || x >= now.modulus()) {
            return BAD;
        }
        lookAt(sum);
        makeTimes(x);
        int bits = freshBits();
        if (!isMany(Integer.bitCount(bits)) || bits >> (TOP_EXPONENT + 1) != 0) {
            return STATE;
        }
        return bringSumOfBits(bits);
    }

    public int all(int support, int what) {
        if (!isSupport(support) || what < 0 || what > 1) {
            return NONE;
        }
        if (Integer.bitCount(now.bits[support]) != 3 || now.modulus() > TOP_PRIME_OF_ALL) {
            return STATE;
        }
        field.become(now.modulus());
        terms.become(now.bits[support]);
        return what == 0 ? countAll() : firstOfAll();
    }

    public int three(int sum) {
        if (!isSum(sum)) {
            return NONE;
        }
        lookAt(sum);
        Exponents had = terms.exponents;
        int step = had.step();
        if (had.many != 3 || step < 1) {
            return STATE;
        }
        int n = had.area();
        int k = (had.exponentAt(1) - had.exponentAt(0)) / step;
        int rest = n - k;
        int plain = field.product(field.powerOfAny(n, n), field.product(
                field.powerOfAny(terms.numberAt(2), k), field.powerOfAny(terms.numberAt(0), rest)));
        int bent = field.product(field.powerOfAny(rest, rest), field.product(
                field.powerOfAny(k, k), field.powerOfAny(terms.numberAt(1), n)));
        return field.mod(n % 2 == 0 ? plain - bent : plain + bent);
    }

    public long chance(int sum, int t, int part) {
        if (!isSum(sum) || t < 2 || t > 20 || part < 0 || part > 1) {
            return NO;
        }
        lookAt(sum);
        long above = terms.chanceAbove(t);
        long below = wholePower(t, terms.exponents.many);
        long divisor = greatestDivisor(above, below);
        if (divisor < 1) {
            return NO;
        }
        return (part == 0 ? above : below) / divisor;
    }

    public int see(int x, int v) {
        if (x == -1) {
            now.seen = 0;
            return 0;
        }
        if (x < 0 || x > TOP_NUMBER || v < 0 || v > TOP_NUMBER) {
            return BAD;
        }
        if (now.seen >= SEEN_ROWS) {
            return FULL;
        }
        return now.addSeen(x, v);
    }

    public int fits(int sum, int e, int what) {
        if (!isExponentOf(sum, e) || what < 0 || what > 1) {
            return NONE;
        }
        lookAt(sum);
        int place = terms.exponents.placeOf(e);
        int many = 0;
        int least = NO_ONE;
        for (int v = 0; v < field.p; v++) {
            terms.tell(place, v);
            if (agreesWithSeen()) {
                least = many == 0 ? v : least;
                many++;
            }
        }
        return what == 0 ? many : least;
    }

    public int lots(int sum, int n, int z) {
        if (!isSum(sum)) {
            return NONE;
        }
        if (n < 1 || n > 40) {
            return BAD;
        }
        lookAt(sum);
        int seed = z;
        int doubles = 0;
        for (int lot = 0; lot < n; lot++) {
            for (int place = 0; place < terms.exponents.many; place++) {
                seed = seed * 1103515245 + 12345;
                terms.tell(place, field.mod((seed & 0x7fffffff) / 65536));
            }
            if (terms.hasDouble()) {
                doubles++;
            }
        }
        return doubles;
    }

    public int feed(int letter) {
        if (letter < 0 || letter > 127) {
            return BAD;
        }
        if (text.many >= SetUp.MOST) {
            return FULL;
        }
        return text.append(letter);
    }

    public int read() {
        int fault = text.fault();
        if (fault >= 0) {
            text.many = 0;
            return FAULTY - fault;
        }
        int done = 0;
        for (int clause = 0; clause < text.clauses; clause++) {
            if (doClause(text.startOf(clause), text.endOf(clause)) >= 0) {
                done++;
            }
        }
        text.many = 0;
        steps.clear();
        return done;
    }

    public int write(int sum) {
        if (!isSum(sum)) {
            return NONE;
        }
        lookAt(sum);
        written.setLength(0);
        for (int place = terms.exponents.many - 1; place >= 0; place--) {
            if (terms.numberAt(place) != 0) {
                if (written.length() > 0) {
                    written.append('+');
                }
                written.append(terms.numberAt(place)).append('x').append(terms.exponents.exponentAt(place));
            }
        }
        if (written.length() == 0) {
            written.append('0');
        }
        return written.length();
    }

    public int paper(int i) {
        return i < 0 || i >= written.length() ? NONE : written.charAt(i);
    }

    public int back() {
        if (steps.many < 1) {
            return STATE;
        }
        int last = steps.many - 1;
        int a = steps.a[last];
        int b = steps.b[last];
        int c = steps.c[last];
        if (steps.kinds[last] == PRIME_STEP) {
            now.prime = a;
        } else if (steps.kinds[last] == NUMBER_STEP && isExponentOf(a, b)) {
            now.told[a][b] = c;
        } else if (steps.kinds[last] == TURN_STEP && isSum(a)) {
            now.kind[a] = b;
            now.figure[a] = c;
        }
        steps.many = last;
        return last;
    }

    public int list(int list, int n) {
        if (!lists.isList(list)) {
            return NONE;
        }
        if (n > Lists.LONGEST) {
            return BAD;
        }
        if (n < 0) {
            return SIZE;
        }
        lists.make(list, n);
        return 1;
    }

    public int put(int list, int i, long v) {
        if (!lists.isList(list)) {
            return NONE;
        }
        if (!lists.holds(list)) {
            return NOTHING;
        }
        if (!lists.isPlace(list, i)) {
            return PLACE;
        }
        lists.rows[list][i] = v;
        return 1;
    }

    public long get(int list, int i) {
        return lists.isPlace(list, i) ? lists.rows[list][i] : NO;
    }

    public int copy(int list, int i, int other, int j, int n) {
        if (!lists.isList(list) || !lists.isList(other)) {
            return NONE;
        }
        if (!lists.holds(list) || !lists.holds(other)) {
            return NOTHING;
        }
        if (n < 0 || i < 0 || j < 0 || i > lists.sizeOf(list) - n || j > lists.sizeOf(other) - n) {
            return PLACE;
        }
        System.arraycopy(lists.rows[list], i, lists.rows[other], j, n);
        return n;
    }

    public int image() {
        kept.becomeLike(now);
        hasImage = true;
        return now.sums;
    }

    public int restore() {
        if (!hasImage) {
            return STATE;
        }
        now.becomeLike(kept);
        steps.clear();
        return now.sums;
    }

    public int count(int what) {
        switch (what) {
            case 0:
                return now.modulus();
            case 1:
                return now.supports;
            case 2:
                return now.sums;
            case 3:
                return now.seen;
            case 4:
                return text.many;
            case 5:
                return written.length();
            case 6:
                return steps.many;
            case 7:
                return failures.many;
            default:
                return BAD;
        }
    }

    private boolean isSupport(int support) {
        return support >= 0 && support < now.supports;
    }

    private boolean isSum(int sum) {
        return sum >= 0 && sum < now.sums;
    }

    private boolean isExponentOf(int sum, int e) {
        return isSum(sum) && e >= 0 && e <= TOP_EXPONENT && (now.bitsOfSum(sum) >> e & 1) == 1;
    }

    /** Whether ROOTS can be looked for at x: 1 .. p less 1. */
    private boolean isPoint(int x) {
        return x >= 1 && x < now.modulus();
    }

    private static boolean isMany(int exponents) {
        return exponents >= 2 && exponents <= EXPONENTS;
    }

    private static boolean isKind(int kind) {
        return kind >= 0 && kind < KINDS;
    }

    private static boolean isFigure(int figure) {
        return figure >= 0 && figure <= TOP_FIGURE;
    }

    private void lookAt(int sum) {
        field.become(now.modulus());
        terms.becomeSum(now, sum);
    }

    private int resultantOfTerms() {
        lowered.become(terms);
        matrix.become(lowered);
        return matrix.determinant();
    }

    private void setFresh(int e, int v) {
        if (e >= 0 && e < fresh.length) {
            fresh[e] = v;
        }
    }

    /** Makes fresh what FORM tells at x, by the numbers of a LIST, of the EXPONENTS looked at. */
    private void makeFormed(int x, int list) {
        field.become(now.modulus());
        Arrays.fill(fresh, 0);
        for (int place = 0; place < exponents.many; place++) {
            int gathered = 0;
            for (int i = 0; i < exponents.relations(); i++) {
                int t = field.modOfLong(lists.longAt(list, i));
                gathered = field.mod(gathered + t * exponents.relationAt(i, place));
            }
            int e = exponents.exponentAt(place);
            setFresh(e, field.product(gathered, field.over(field.power(x, e))));
        }
    }

    /** Makes fresh the SUM looked at, multiplied by (X less x). */
    private void makeTimes(int x) {
        Arrays.fill(fresh, 0);
        for (int place = 0; place < terms.exponents.many; place++) {
            int e = terms.exponents.exponentAt(place);
            if (e + 1 < fresh.length) {
                fresh[e + 1] = field.mod(fresh[e + 1] + terms.numberAt(place));
                fresh[e] = field.mod(fresh[e] - x * terms.numberAt(place));
            }
        }
    }

    private int freshBits() {
        int bits = 0;
        for (int e = 0; e < fresh.length; e++) {
            if (fresh[e] != 0) {
                bits |= 1 << e;
            }
        }
        return bits;
    }

    private int bringSumOfBits(int bits) {
        int support = now.firstSupportLike(bits);
        if (now.sums >= SUMS || support < 0 && now.supports >= SUPPORTS) {
            return FULL;
        }
        return bringSum(support < 0 ? now.addSupport(bits) : support);
    }

    private int bringSum(int support) {
        steps.clear();
        int sum = now.addSum(support, 0, 0);
        now.tellAll(sum, fresh);
        return sum;
    }

    private int firstFailingTrial(int x) {
        if (terms.valueAt(x) != 0) {
            return 1;
        }
        if (terms.slopeAt(x) != 0) {
            return 2;
        }
        if (resultantOfTerms() != 0) {
            return 3;
        }
        return form.solve(terms, x) ? 0 : 4;
    }

    private void noteFailures(int sum, int x, int trial) {
        failures.add(10, sum);
        if (trial == 1) {
            failures.add(1, terms.valueAt(x));
        } else if (trial == 2) {
            failures.add(2, terms.slopeAt(x));
            failures.add(6, Integer.bitCount(terms.doubles()));
        } else if (trial == 3) {
            failures.add(3, resultantOfTerms());
        } else {
            failures.add(4, terms.exponents.many);
            failures.add(7, Integer.bitCount(terms.roots()));
        }
    }

    private int countAll() {
        int many = 0;
        for (int a = 1; a < field.p; a++) {
            for (int b = 1; b < field.p; b++) {
                many += Integer.bitCount(terms.thirdsWithDouble(a, b));
            }
        }
        return many;
    }

    private int firstOfAll() {
        for (int a = 1; a < field.p; a++) {
            for (int b = 1; b < field.p; b++) {
                int thirds = terms.thirdsWithDouble(a, b);
                if (thirds != 0) {
                    return 10000 * a + 100 * b + lowestBit(thirds);
                }
            }
        }
        return NO_ONE;
    }

    private static int lowestBit(int bits) {
        for (int i = 0; i < 32; i++) {
            if ((bits >> i & 1) == 1) {
                return i;
            }
        }
        return NO_ONE;
    }

    private boolean agreesWithSeen() {
        for (int i = 0; i < now.seen; i++) {
            if (terms.valueAt(field.mod(now.seenX[i])) != field.mod(now.seenV[i])) {
                return false;
            }
        }
        return true;
    }

    /** Does a CLAUSE without FAULT from start on (its end is behind it); below 0: it was refused. */
    private int doClause(int start, int end) {
        switch (text.letterAt(start)) {
            case 'p':
                return prime(text.signAt(start + 1));
            case 'a':
                return support(text.bitsOfSigns(start + 1, end));
            case 's':
                return sum(text.signAt(start + 1), text.signAt(start + 2), text.signAt(start + 3));
            case 'n':
                return number(text.signAt(start + 1), text.signAt(start + 2),
                        10 * text.signAt(start + 3) + text.signAt(start + 4));
            default:
                return NONE;
        }
    }

    private static long wholePower(long base, int power) {
        long result = 1;
        for (int i = 0; i < power; i++) {
            result *= base;
        }
        return result;
    }

    /** The greatest number that divides both, which are not below 0. */
    private static long greatestDivisor(long a, long b) {
        long greater = a;
        long rest = b;
        // Twice the bits of a long are more rounds than Euclid ever needs.
        for (int round = 0; round < 128 && rest != 0; round++) {
            long next = greater % rest;
            greater = rest;
            rest = next;
        }
        return greater;
    }

    /** The first row from a place on (below an end) whose number in a column isn't 0; -1: there is none. */
    private static int rowNotZero(int[][] cells, int column, int from, int end) {
        for (int i = from; i < end; i++) {
            if (cells[i][column] != 0) {
                return i;
            }
        }
        return -1;
    }

    private static void swapRows(int[][] cells, int one, int other, int columns) {
        for (int j = 0; j < columns; j++) {
            int had = cells[one][j];
            cells[one][j] = cells[other][j];
            cells[other][j] = had;
        }
    }

    /** What THE IMAGE holds: PRIME, SUPPORTS, SUMS, SEEN. */
    static final class Stock {
        int prime;
        int supports;
        final int[] bits;
        int sums;
        final int[] supportOf;
        final int[] kind;
        final int[] figure;
        /** TOLD numbers, by SUM and by EXPONENT. */
        final int[][] told;
        int seen;
        final int[] seenX;
        final int[] seenV;

        Stock() {
            prime = 1;
            bits = new int[SUPPORTS];
            supportOf = new int[SUMS];
            kind = new int[SUMS];
            figure = new int[SUMS];
            told = new int[SUMS][TOP_EXPONENT + 1];
            seenX = new int[SEEN_ROWS];
            seenV = new int[SEEN_ROWS];
        }

        int modulus() {
            return prime < 0 || prime >= PRIMES.length ? 0 : PRIMES[prime];
        }

        int bitsOfSum(int sum) {
            int support = sum < 0 || sum >= sums ? -1 : supportOf[sum];
            return support < 0 || support >= supports ? 0 : bits[support];
        }

        int firstSupportLike(int wanted) {
            for (int i = 0; i < supports; i++) {
                if (bits[i] == wanted) {
                    return i;
                }
            }
            return -1;
        }

        int addSupport(int more) {
            if (supports >= bits.length) {
                return FULL;
            }
            bits[supports] = more;
            supports++;
            return supports - 1;
        }

        int addSum(int support, int kindOfIt, int figureOfIt) {
            if (sums >= told.length) {
                return FULL;
            }
            supportOf[sums] = support;
            kind[sums] = kindOfIt;
            figure[sums] = figureOfIt;
            Arrays.fill(told[sums], 0);
            sums++;
            return sums - 1;
        }

        void tellAll(int sum, int[] byExponent) {
            if (sum >= 0 && sum < sums && byExponent.length > TOP_EXPONENT) {
                System.arraycopy(byExponent, 0, told[sum], 0, TOP_EXPONENT + 1);
            }
        }

        int addSeen(int x, int v) {
            if (seen >= seenX.length) {
                return FULL;
            }
            seenX[seen] = x;
            seenV[seen] = v;
            seen++;
            return seen;
        }

        void becomeLike(Stock other) {
            prime = other.prime;
            supports = other.supports;
            sums = other.sums;
            seen = other.seen;
            System.arraycopy(other.bits, 0, bits, 0, SUPPORTS);
            System.arraycopy(other.supportOf, 0, supportOf, 0, SUMS);
            System.arraycopy(other.kind, 0, kind, 0, SUMS);
            System.arraycopy(other.figure, 0, figure, 0, SUMS);
            for (int i = 0; i < SUMS; i++) {
                System.arraycopy(other.told[i], 0, told[i], 0, TOP_EXPONENT + 1);
            }
            System.arraycopy(other.seenX, 0, seenX, 0, SEEN_ROWS);
            System.arraycopy(other.seenV, 0, seenV, 0, SEEN_ROWS);
        }
    }

    /** Numbers MODULO p, with tables of what is often asked, made anew only if p is another. */
    static final class Field {
        int p;
        private final int[][] powers;
        private final int[] overs;

        Field() {
            powers = new int[TOP_NUMBER + 1][TOP_EXPONENT + 1];
            overs = new int[TOP_NUMBER + 1];
        }

        void become(int modulus) {
            if (modulus == p) {
                return;
            }
            p = modulus;
            for (int x = 0; x < p && x < powers.length; x++) {
                powers[x][0] = 1;
                for (int e = 1; e <= TOP_EXPONENT; e++) {
                    powers[x][e] = mod(powers[x][e - 1] * x);
                }
                overs[x] = findOver(x);
            }
        }

        private int findOver(int x) {
            for (int y = 1; y < p; y++) {
                if (mod(x * y) == 1) {
                    return y;
                }
            }
            return 0;
        }

        int mod(int v) {
            return p < 1 ? 0 : Math.floorMod(v, p);
        }

        int modOfLong(long v) {
            return p < 1 ? 0 : (int) Math.floorMod(v, (long) p);
        }

        /** x (0 .. p less 1) to the power e (0 .. 12); of 0 to the power 0 it is 1. */
        int power(int x, int e) {
            return x < 0 || x >= powers.length || e < 0 || e > TOP_EXPONENT ? 0 : powers[x][e];
        }

        int powerOfAny(int v, int e) {
            return power(mod(v), e);
        }

        int product(int a, int b) {
            return p < 1 ? 0 : Math.floorMod(a * b, p);
        }

        /** OVER x; 0, if x is 0. */
        int over(int x) {
            return x < 0 || x >= overs.length ? 0 : overs[x];
        }

        /** The powers 0 .. 12 of x (0 .. p less 1). */
        int[] powersOf(int x) {
            return powers[x < 0 || x >= powers.length ? 0 : x];
        }
    }

    /** The EXPONENTS of a SUPPORT, the least first, and what follows from them alone. */
    static final class Exponents {
        private final int[] row;
        int many;

        Exponents() {
            row = new int[EXPONENTS];
        }

        void become(int bits) {
            many = 0;
            for (int e = 0; e <= TOP_EXPONENT; e++) {
                if ((bits >> e & 1) == 1 && many < row.length) {
                    row[many] = e;
                    many++;
                }
            }
        }

        int exponentAt(int place) {
            return place < 0 || place >= many ? 0 : row[place];
        }

        int first() {
            return exponentAt(0);
        }

        int last() {
            return exponentAt(many - 1);
        }

        int placeOf(int e) {
            for (int place = 0; place < many; place++) {
                if (row[place] == e) {
                    return place;
                }
            }
            return -1;
        }

        int span() {
            return last() - first();
        }

        int step() {
            int divisor = 0;
            for (int place = 1; place < many; place++) {
                divisor = (int) greatestDivisor(divisor, row[place] - row[0]);
            }
            return divisor;
        }

        int area() {
            int step = step();
            return step < 1 ? 0 : span() / step;
        }

        int degree() {
            int step = step();
            int ends = exponentAt(1) - first() + last() - exponentAt(many - 2);
            return step < 1 ? 0 : (2 * span() - ends) / step;
        }

        int relations() {
            return Math.max(0, many - 2);
        }

        /** What RELATION i has at the EXPONENT of a place. */
        int relationAt(int i, int place) {
            int a = exponentAt(i);
            int b = exponentAt(i + 1);
            int c = exponentAt(i + 2);
            int divisor = (int) greatestDivisor(b - a, c - b);
            if (divisor < 1) {
                return 0;
            }
            if (place == i) {
                return (c - b) / divisor;
            }
            if (place == i + 1) {
                return (a - c) / divisor;
            }
            return place == i + 2 ? (b - a) / divisor : 0;
        }
    }

    /** A SUM that is looked at: NUMBERS at its EXPONENTS, by the place of the EXPONENT. */
    static final class Terms {
        private final Field field;
        final Exponents exponents;
        private final int[] numbers;
        private final int[] whole;
        private int kind;
        private int figure;

        Terms(Field field) {
            this.field = field;
            exponents = new Exponents();
            numbers = new int[EXPONENTS];
            whole = new int[EXPONENTS];
        }

        /** A SUM of KIND 0 with all NUMBERS 0. */
        void become(int bits) {
            exponents.become(bits);
            kind = 0;
            figure = 0;
            Arrays.fill(numbers, 0);
        }

        void becomeSum(Stock stock, int sum) {
            if (sum < 0 || sum >= stock.sums) {
                become(0);
                return;
            }
            become(stock.bitsOfSum(sum));
            kind = stock.kind[sum];
            figure = stock.figure[sum];
            for (int place = 0; place < exponents.many; place++) {
                tell(place, stock.told[sum][exponents.exponentAt(place)]);
            }
        }

        int numberAt(int place) {
            return place < 0 || place >= exponents.many ? 0 : numbers[place];
        }

        /** Makes the NUMBER at a place what it is by the KIND, if v is TOLD there. */
        void tell(int place, int v) {
            if (place >= 0 && place < exponents.many) {
                numbers[place] = field.mod(byKind(exponents.exponentAt(place), v));
            }
        }

        private int byKind(int e, int v) {
            int signed = e % 2 == 1 ? -v : v;
            int scaled = v * (figure + 1);
            switch (kind) {
                case 1:
                    return signed;
                case 2:
                    return scaled;
                case 3:
                    return signed * (e + figure);
                case 4:
                    return e == exponents.last() ? 0 : scaled;
                case 5:
                    return e * v;
                default:
                    return v;
            }
        }

        int notZero() {
            int many = 0;
            for (int place = 0; place < exponents.many; place++) {
                if (numbers[place] != 0) {
                    many++;
                }
            }
            return many;
        }

        int valueAt(int x) {
            int[] powers = field.powersOf(x);
            int gathered = 0;
            for (int place = 0; place < exponents.many; place++) {
                gathered += numbers[place] * powers[exponents.exponentAt(place)];
            }
            return field.mod(gathered);
        }

        int slopeAt(int x) {
            int[] powers = field.powersOf(x);
            int gathered = 0;
            for (int place = 0; place < exponents.many; place++) {
                int e = exponents.exponentAt(place);
                if (e > 0) {
                    gathered += numbers[place] * e * powers[e - 1];
                }
            }
            return field.mod(gathered);
        }

        /** Over a field an x that isn't 0 has ORDER 2 or more just if VALUE and SLOPE are 0 there. */
        private boolean isDouble(int x) {
            return valueAt(x) == 0 && slopeAt(x) == 0;
        }

        boolean hasDouble() {
            for (int x = 1; x < field.p; x++) {
                if (isDouble(x)) {
                    return true;
                }
            }
            return false;
        }

        int roots() {
            int bits = 0;
            for (int x = 1; x < field.p; x++) {
                if (valueAt(x) == 0) {
                    bits |= 1 << x;
                }
            }
            return bits;
        }

        int doubles() {
            int bits = 0;
            for (int x = 1; x < field.p; x++) {
                if (isDouble(x)) {
                    bits |= 1 << x;
                }
            }
            return bits;
        }

        /** Those NUMBERS (as bits) at the third place by which a and b ahead of it have a DOUBLE root. */
        int thirdsWithDouble(int a, int b) {
            int thirds = 0;
            numbers[0] = a;
            numbers[1] = b;
            for (int x = 1; x < field.p; x++) {
                numbers[2] = 0;
                int wanted = field.over(field.power(x, exponents.exponentAt(2)));
                numbers[2] = field.product(-valueAt(x), wanted);
                if (numbers[2] != 0 && slopeAt(x) == 0) {
                    thirds |= 1 << numbers[2];
                }
            }
            return thirds;
        }

        /** CHANCE with t to the power of how many EXPONENTS there are below the line. */
        long chanceAbove(int t) {
            System.arraycopy(numbers, 0, whole, 0, EXPONENTS);
            long above = 0;
            for (int stays = 0; stays < 1 << exponents.many; stays++) {
                for (int place = 0; place < exponents.many; place++) {
                    numbers[place] = (stays >> place & 1) == 1 ? whole[place] : 0;
                }
                if (hasDouble()) {
                    above += wholePower(t - 1, Integer.bitCount(stays));
                }
            }
            return above;
        }
    }

    /** LOWERED and ITS SLOPE of a SUM, what they have in COMMON, and the ORDER of a number. */
    static final class Lowered {
        private final Field field;
        int span;
        private final int[] numbers;
        private final int[] slope;
        private final int[] common;
        private final int[] rest;
        /** The highest power of X in COMMON; -1: there is none. */
        int commonTop;

        Lowered(Field field) {
            this.field = field;
            numbers = new int[TOP_EXPONENT + 1];
            slope = new int[TOP_EXPONENT + 1];
            common = new int[TOP_EXPONENT + 1];
            rest = new int[TOP_EXPONENT + 1];
        }

        void become(Terms terms) {
            Exponents exponents = terms.exponents;
            span = exponents.span();
            Arrays.fill(numbers, 0);
            for (int place = 0; place < exponents.many; place++) {
                int i = exponents.exponentAt(place) - exponents.first();
                if (i >= 0 && i < numbers.length) {
                    numbers[i] = terms.numberAt(place);
                }
            }
            for (int i = 0; i + 1 < numbers.length; i++) {
                slope[i] = field.product(i + 1, numbers[i + 1]);
            }
        }

        int numberOf(int i) {
            return i < 0 || i >= numbers.length ? 0 : numbers[i];
        }

        int slopeOf(int i) {
            return i < 0 || i >= slope.length ? 0 : slope[i];
        }

        int commonAt(int i) {
            return i < 0 || i >= common.length ? 0 : common[i];
        }

        /** The highest place that isn't 0; -1: all are. */
        private static int topOf(int[] row) {
            for (int i = row.length - 1; i >= 0; i--) {
                if (row[i] != 0) {
                    return i;
                }
            }
            return -1;
        }

        void findCommon() {
            System.arraycopy(numbers, 0, common, 0, numbers.length);
            System.arraycopy(slope, 0, rest, 0, slope.length);
            int[] greater = common;
            int[] less = rest;
            // Each round makes the highest power less: no more rounds than powers.
            for (int round = 0; round <= TOP_EXPONENT + 1 && topOf(less) >= 0; round++) {
                reduce(greater, less);
                int[] reduced = greater;
                greater = less;
                less = reduced;
            }
            commonTop = topOf(greater);
            int factor = commonTop < 0 ? 0 : field.over(greater[commonTop]);
            for (int i = 0; i < common.length; i++) {
                common[i] = field.product(greater[i], factor);
            }
        }

        /** What stays of a row of powers divided by another one. */
        private void reduce(int[] row, int[] by) {
            int top = topOf(by);
            if (top < 0) {
                return;
            }
            int factor = field.over(by[top]);
            for (int i = topOf(row); i >= top; i--) {
                int quotient = field.product(row[i], factor);
                for (int k = 0; k <= top; k++) {
                    row[i - top + k] = field.mod(row[i - top + k] - quotient * by[k]);
                }
            }
        }

        int orderAt(int x) {
            System.arraycopy(numbers, 0, rest, 0, numbers.length);
            if (topOf(rest) < 0) {
                return ORDER_OF_NOTHING;
            }
            int order = 0;
            while (order <= TOP_EXPONENT && divideBy(x) == 0) {
                order++;
            }
            return order;
        }

        /** Divides what rests by (X less x): what is left over. */
        private int divideBy(int x) {
            int carried = 0;
            for (int i = rest.length - 1; i >= 0; i--) {
                int had = rest[i];
                rest[i] = carried;
                carried = field.mod(had + carried * x);
            }
            return carried;
        }
    }

    /** The MATRIX of a SUM. */
    static final class Matrix {
        private final Field field;
        private final int[][] cells;
        private int size;

        Matrix(Field field) {
            this.field = field;
            cells = new int[2 * TOP_EXPONENT - 1][2 * TOP_EXPONENT - 1];
        }

        int cellOf(Lowered lowered, int i, int j) {
            int span = lowered.span;
            if (i < span - 1) {
                return j < i ? 0 : lowered.numberOf(span - (j - i));
            }
            int k = i - (span - 1);
            return j < k ? 0 : lowered.slopeOf(span - 1 - (j - k));
        }

        void become(Lowered lowered) {
            size = Math.min(2 * lowered.span - 1, cells.length);
            for (int i = 0; i < size; i++) {
                for (int j = 0; j < size; j++) {
                    cells[i][j] = cellOf(lowered, i, j);
                }
            }
        }

        /** Leaves the MATRIX as steps. */
        int determinant() {
            int product = 1;
            for (int column = 0; column < size; column++) {
                int pivot = rowNotZero(cells, column, column, size);
                if (pivot < 0) {
                    return 0;
                }
                if (pivot != column) {
                    swapRows(cells, pivot, column, size);
                    product = field.mod(-product);
                }
                product = field.product(product, cells[column][column]);
                clearBelow(column);
            }
            return product;
        }

        private void clearBelow(int column) {
            int over = field.over(cells[column][column]);
            for (int i = column + 1; i < size; i++) {
                int factor = field.product(cells[i][column], over);
                for (int j = column; factor != 0 && j < size; j++) {
                    cells[i][j] = field.mod(cells[i][j] - factor * cells[column][j]);
                }
            }
        }
    }

    /** Looks for the numbers t by which a SUM is of its FORM at x. */
    static final class Form {
        private final Field field;
        /** An equation a row, for each EXPONENT; its last column is what is due. */
        private final int[][] cells;
        private final int[] found;
        private int rows;
        private int unknowns;

        Form(Field field) {
            this.field = field;
            cells = new int[EXPONENTS][EXPONENTS - 1];
            found = new int[EXPONENTS];
        }

        int byOf(int i) {
            return i < 0 || i >= unknowns ? 0 : found[i];
        }

        boolean solve(Terms terms, int x) {
            become(terms, x);
            Arrays.fill(found, 0);
            int settled = 0;
            // The last RELATION first: so what stays free comes early, where 0 is the least.
            for (int column = unknowns - 1; column >= 0; column--) {
                int pivot = rowNotZero(cells, column, settled, rows);
                if (pivot >= 0) {
                    swapRows(cells, pivot, settled, unknowns + 1);
                    clearOthers(settled, column);
                    found[column] = settled + 1;
                    settled++;
                }
            }
            for (int column = 0; column < unknowns; column++) {
                found[column] = found[column] == 0 ? 0 : cells[found[column] - 1][unknowns];
            }
            return restIsZero(settled);
        }

        private void become(Terms terms, int x) {
            Exponents exponents = terms.exponents;
            rows = exponents.many;
            unknowns = exponents.relations();
            for (int place = 0; place < rows; place++) {
                for (int i = 0; i < unknowns; i++) {
                    cells[place][i] = field.mod(exponents.relationAt(i, place));
                }
                cells[place][unknowns] =
                        field.product(terms.numberAt(place), field.power(x, exponents.exponentAt(place)));
            }
        }

        /** Makes the column 1 in the row of its own and 0 in all others. */
        private void clearOthers(int own, int column) {
            int over = field.over(cells[own][column]);
            for (int j = 0; j <= unknowns; j++) {
                cells[own][j] = field.product(cells[own][j], over);
            }
            for (int i = 0; i < rows; i++) {
                int factor = i == own ? 0 : cells[i][column];
                for (int j = 0; factor != 0 && j <= unknowns; j++) {
                    cells[i][j] = field.mod(cells[i][j] - factor * cells[own][j]);
                }
            }
        }

        private boolean restIsZero(int from) {
            for (int i = from; i < rows; i++) {
                if (cells[i][unknowns] != 0) {
                    return false;
                }
            }
            return true;
        }
    }

    /** What can be TAKEN BACK, the latest last. */
    static final class Steps {
        private static final int MOST = 8;
        int many;
        final int[] kinds;
        final int[] a;
        final int[] b;
        final int[] c;

        Steps() {
            kinds = new int[MOST];
            a = new int[MOST];
            b = new int[MOST];
            c = new int[MOST];
        }

        void clear() {
            many = 0;
        }

        void push(int kind, int ofA, int ofB, int ofC) {
            if (many >= MOST) {
                dropOldest();
            }
            kinds[many] = kind;
            a[many] = ofA;
            b[many] = ofB;
            c[many] = ofC;
            many++;
        }

        private void dropOldest() {
            System.arraycopy(kinds, 1, kinds, 0, MOST - 1);
            System.arraycopy(a, 1, a, 0, MOST - 1);
            System.arraycopy(b, 1, b, 0, MOST - 1);
            System.arraycopy(c, 1, c, 0, MOST - 1);
            many = MOST - 1;
        }
    }

    /** The LISTS. */
    static final class Lists {
        static final int LONGEST = 20;
        private static final int MANY = 4;
        final long[][] rows;
        /** How long the row is; below 0: nothing is held. */
        private final int[] sizes;

        Lists() {
            rows = new long[MANY][LONGEST];
            sizes = new int[MANY];
            Arrays.fill(sizes, -1);
        }

        boolean isList(int list) {
            return list >= 0 && list < MANY;
        }

        boolean holds(int list) {
            return sizeOf(list) >= 0;
        }

        int sizeOf(int list) {
            return isList(list) ? sizes[list] : -1;
        }

        boolean isPlace(int list, int i) {
            return i >= 0 && i < sizeOf(list);
        }

        long longAt(int list, int i) {
            return isPlace(list, i) ? rows[list][i] : 0;
        }

        void make(int list, int n) {
            if (isList(list)) {
                sizes[list] = n;
                Arrays.fill(rows[list], 0);
            }
        }
    }

    /** THE TEXT, and where its CLAUSES are. */
    static final class SetUp {
        static final int MOST = 80;
        private static final int MOST_CLAUSES = 10;
        private static final int LEAST_SIGNS = 2;
        private final int[] letters;
        int many;
        int clauses;
        private final int[] starts;
        private final int[] ends;

        SetUp() {
            letters = new int[MOST];
            starts = new int[MOST_CLAUSES];
            ends = new int[MOST_CLAUSES];
        }

        int append(int letter) {
            if (many < MOST) {
                letters[many] = letter;
                many++;
            }
            return many;
        }

        /** A letter; -1 behind the last one. */
        int letterAt(int i) {
            return i < 0 || i >= many ? -1 : letters[i];
        }

        int startOf(int clause) {
            return clause < 0 || clause >= clauses ? -1 : starts[clause];
        }

        int endOf(int clause) {
            return clause < 0 || clause >= clauses ? -1 : ends[clause];
        }

        /** The number of a sign: 0 .. 12; -1: it is none. */
        int signAt(int i) {
            int letter = letterAt(i);
            if (letter >= '0' && letter <= '9') {
                return letter - '0';
            }
            return letter >= 'a' && letter <= 'c' ? letter - 'a' + 10 : -1;
        }

        private boolean isDigitAt(int i) {
            int sign = signAt(i);
            return sign >= 0 && sign <= 9;
        }

        int bitsOfSigns(int from, int to) {
            int bits = 0;
            for (int i = from; i < to; i++) {
                int sign = signAt(i);
                if (sign >= 0) {
                    bits |= 1 << sign;
                }
            }
            return bits;
        }

        /** The FAULT; -1: there is none, and the CLAUSES are found. */
        int fault() {
            int start = 0;
            for (clauses = 0; clauses < MOST_CLAUSES; clauses++) {
                int length = lengthOfShape(letterAt(start));
                int end = start;
                while (end < start + length && goesOnAt(start, end)) {
                    end++;
                }
                if (length == 0 || end < start + length) {
                    return end;
                }
                if (letterAt(start) == 'a') {
                    end = behindSigns(end, start + 1 + EXPONENTS);
                }
                starts[clauses] = start;
                ends[clauses] = end;
                if (end == many) {
                    clauses++;
                    return -1;
                }
                if (letterAt(end) != ';' || clauses == MOST_CLAUSES - 1) {
                    return end;
                }
                start = end + 1;
            }
            return start;
        }

        /** How many letters a CLAUSE has at least, by its first one; 0: none begins so. */
        private static int lengthOfShape(int first) {
            switch (first) {
                case 'p':
                    return 2;
                case 'a':
                    return 1 + LEAST_SIGNS;
                case 's':
                    return 4;
                case 'n':
                    return 5;
                default:
                    return 0;
            }
        }

        private boolean goesOnAt(int start, int i) {
            if (i == start) {
                return true;
            }
            boolean isSign = letterAt(start) == 'a' || letterAt(start) == 'n' && i == start + 2;
            return isSign ? signAt(i) >= 0 : isDigitAt(i);
        }

        private int behindSigns(int from, int limit) {
            int i = from;
            while (i < limit && signAt(i) >= 0) {
                i++;
            }
            return i;
        }
    }

    /** FAILURES of the latest SUM that was TRIED, from the outermost on. */
    static final class Failures {
        private static final int MOST = 3;
        int many;
        final int[] kinds;
        final int[] numbers;

        Failures() {
            kinds = new int[MOST];
            numbers = new int[MOST];
        }

        void clear() {
            many = 0;
        }

        void add(int kind, int number) {
            if (many < MOST) {
                kinds[many] = kind;
                numbers[many] = number;
                many++;
            }
        }
    }
}
