import java.util.Arrays;
import java.util.NoSuchElementException;

/**
 * A table of Bernoulli's numbers, laid in three ways, with tests of its entries and what is worked
 * out from them. All rows are made with the object: no call makes another object or array.
 */
public final class BernoulliWays {
    public static final int NONE = -1;

    private static final long NO = Long.MIN_VALUE;
    private static final int NOT_LAID = -2;
    private static final int NOT_SO_MANY = -2;
    private static final int NOT_TOLD = -3;

    private static final int RECURRENCE = 0;
    private static final int TRIANGLE = 1;
    private static final int SIEVE = 2;
    private static final int SPOILT = 3;

    private static final int LAST = 38;
    private static final int ENTRIES = LAST + 1;
    private static final int ALL_TESTS = 63;
    private static final int TEST_OF_RECURRENCE = 4;
    private static final int MOST_SPOILING = 9;

    private static final int[] PRIMES = {
        2, 3, 5, 7, 11, 13, 17, 19, 23, 29, 31, 37, 41, 43, 47, 53, 59, 61, 67, 71, 73, 79, 83, 89,
        97, 101, 103, 107, 109, 113, 127, 131, 137, 139, 149, 151, 157, 163, 167, 173, 179, 181,
        191, 193, 197, 199
    };
    private static final int LEAST_PRIME = 3;
    private static final int GREATEST_PRIME = 199;
    /** Where 41 stands among PRIMES; nine primes from there on have a product above 2 * 10^15. */
    private static final int FIRST_SIEVING = 12;
    private static final int SIEVING = 9;

    /** The product of all primes to 37: each BELOW of the table divides it. */
    private static final long COMMON = 7420738134810L;
    /** The products of all primes to 23, 13, 11 and 5: likewise up to entries 24, 15, 10 and 4. */
    private static final long COMMON_TO_24 = 223092870L;
    private static final long COMMON_TO_15 = 30030L;
    private static final long COMMON_TO_10 = 2310L;
    private static final long COMMON_TO_4 = 30L;
    /** The least number that all from 1 to 21 divide. */
    private static final long COMMON_OF_BOXES = 232792560L;

    private static final int MOST_POWER = 24;
    private static final int MOST_TERMS = 1000000000;
    private static final long BIG_PRIME = 1000000007L;
    private static final int MOST_TRIANGULAR = 15;
    private static final int MOST_THINGS = 30;
    private static final int MOST_BY_BOXES = 20;
    private static final int MOST_ZIGZAG = 23;
    private static final int NOT_OFTEN = -100;
    private static final int ALWAYS_OFTEN = 100;

    private final Choose choose = new Choose();
    private final Total total = new Total();
    private final Triangle triangle = new Triangle();
    private final Entries rightOnes = new Entries();
    private final Entries now = new Entries();
    private final Entries kept = new Entries();
    private final int[] ways = new int[ENTRIES];
    private int top = -1;
    private final Checks checks = new Checks(now, choose, total);
    private final Memo memory = new Memo();
    private final ByWays alone = new ByWays();
    private final Pairs pairs = new Pairs(alone);
    private final Decimal decimal = new Decimal();
    private final Fraction worked = new Fraction();
    /** Rows of residues, of coefficients and of counts, filled anew by the call that uses them. */
    private final long[] row = new long[ENTRIES + 1];
    private final long[] otherRow = new long[ENTRIES + 1];

    public BernoulliWays() {
        triangle.begin(LAST);
        for (int n = 0; n <= LAST; n++) {
            triangle.tellEntry(n, worked);
            rightOnes.store(n, worked);
            triangle.step();
        }
    }

    // ---- the table -------------------------------------------------------------------------

    public int lay(int n, int way) {
        if (!isEntry(n) || !isWay(way)) {
            return NONE;
        }
        if (way == RECURRENCE && !allRightBelow(top + 1)) {
            return NOT_TOLD;
        }
        int laid = 0;
        for (int k = top + 1; k <= n; k++) {
            layOne(k, way);
            top = k;
            laid++;
        }
        return laid;
    }

    public int relay(int n, int way) {
        if (!isEntry(n) || !isWay(way)) {
            return NONE;
        }
        if (n > top) {
            return NOT_LAID;
        }
        if (way == RECURRENCE && !allRightBelow(n)) {
            return NOT_TOLD;
        }
        return layOne(n, way) ? 1 : 0;
    }

    public int spoil(int n, int d) {
        if (!isEntry(n) || d == 0 || d < -MOST_SPOILING || d > MOST_SPOILING) {
            return NONE;
        }
        if (n > top) {
            return NOT_LAID;
        }
        now.increase(n, d);
        noteWay(n, SPOILT);
        return checks.failed(n, ALL_TESTS);
    }

    public int heal(int some) {
        if (!areTests(some)) {
            return NONE;
        }
        long failing = failingOnes(some);
        int others = 0;
        for (int n = 0; n <= top; n++) {
            if ((failing >> n & 1) == 1 && layOne(n, TRIANGLE)) {
                others++;
            }
        }
        return others;
    }

    public long number(int n, int what) throws NoSuchElementException {
        if (!isPart(what)) {
            throw new NoSuchElementException("what is 0, 1 or 2");
        }
        if (!isLaid(n)) {
            return NO;
        }
        now.fetch(n, worked);
        return worked.told(what);
    }

    public int way(int n) {
        if (!isEntry(n)) {
            return NONE;
        }
        return n > top ? NOT_LAID : ways[n];
    }

    public int right(int n) {
        if (!isEntry(n)) {
            return NONE;
        }
        if (n > top) {
            return NOT_LAID;
        }
        return isRight(n) ? 1 : 0;
    }

    public int agree(int n) {
        if (!isEntry(n)) {
            return NONE;
        }
        if (n > top) {
            return NOT_LAID;
        }
        int agreeing = 0;
        for (int way = RECURRENCE; way <= SIEVE; way++) {
            if (way == RECURRENCE && !allRightBelow(n)) {
                continue;
            }
            work(n, way);
            if (now.holds(n, worked)) {
                agreeing++;
            }
        }
        return agreeing;
    }

    public int prime(int n, int k) {
        if (!isEntry(n) || k < 0) {
            return NONE;
        }
        int ahead = 0;
        for (int q : PRIMES) {
            if (!isBelow(q, n)) {
                continue;
            }
            if (ahead == k) {
                return q;
            }
            ahead++;
        }
        return NOT_SO_MANY;
    }

    public long whole(int n) {
        if (!isEntry(n) || !isEvenFromTwo(n)) {
            return NO;
        }
        total.begin(COMMON);
        total.add(1, rightOnes.wholeOf(n), rightOnes.aboveOf(n), rightOnes.belowOf(n));
        addPrimesBelow(n, 1);
        total.tell(worked);
        return worked.whole;
    }

    // ---- residues and congruences ----------------------------------------------------------

    public int residue(int n, int p) {
        if (!isEntry(n) || !isPrime(p)) {
            return NONE;
        }
        if (n > top) {
            return NOT_LAID;
        }
        int answer = residueNow(n, p);
        if (answer >= 0) {
            memory.remember(n, p, answer);
        }
        return answer;
    }

    public int byPowers(int n, int p) {
        if (!isEntry(n) || !isPrime(p)) {
            return NONE;
        }
        if (!isEvenFromTwo(n) || n % (p - 1) == 0) {
            return NOT_TOLD;
        }
        return (int) Modulo.byPowerSum(n, p);
    }

    public int memo(int k, int what) {
        if (k < 0 || what < 0 || what > 3) {
            return NONE;
        }
        if (k >= memory.size()) {
            return NOT_SO_MANY;
        }
        switch (what) {
            case 0:
                return memory.entryOf(k);
            case 1:
                return memory.primeOf(k);
            case 2:
                return memory.answerOf(k);
            default:
                return holdsStill(k) ? 1 : 0;
        }
    }

    public int often(int n, int p) {
        if (!isPrime(p) || !isLaid(n)) {
            return NOT_OFTEN;
        }
        if (now.signOf(n) == 0) {
            return ALWAYS_OFTEN;
        }
        now.fetch(n, worked);
        return worked.oftenAbove(p) - worked.oftenBelow(p);
    }

    public int kummer(int p, int m, int n) {
        if (!isPrime(p) || !isEntry(m) || !isEntry(n)) {
            return NONE;
        }
        if (m > top || n > top) {
            return NOT_LAID;
        }
        return checks.kummerOf(p, m, n);
    }

    public int kummerTwice(int p, int m, int n) {
        if (!isPrime(p) || !isEntry(m) || !isEntry(n)) {
            return NONE;
        }
        if (m > top || n > top) {
            return NOT_LAID;
        }
        return checks.kummerTwiceOf(p, m, n);
    }

    // ---- which entries fail which test -----------------------------------------------------

    public int tests(int n) {
        if (!isEntry(n)) {
            return NONE;
        }
        return n > top ? NOT_LAID : checks.failed(n, ALL_TESTS);
    }

    public long suspects(int some) {
        return areTests(some) ? failingOnes(some) : NO;
    }

    public int broken(int what) {
        if (what < 0 || what > 1) {
            return NONE;
        }
        int first = NOT_SO_MANY;
        int many = 0;
        for (int n = 1; n <= top; n++) {
            if (checks.failed(n, TEST_OF_RECURRENCE) == 0) {
                continue;
            }
            if (many == 0) {
                first = n;
            }
            many++;
        }
        return what == 0 ? first : many;
    }

    public int culprit(int some) {
        if (!areTests(some)) {
            return NONE;
        }
        boolean passesNow = allPass(some);
        int found = NOT_SO_MANY;
        kept.takeOver(now);
        for (int n = 0; n <= top && found < 0; n++) {
            boolean passes = passesNow;
            // an entry that is right leaves all as it stands, so that need not be tested again
            if (!isRight(n)) {
                rightOnes.fetch(n, worked);
                now.store(n, worked);
                passes = allPass(some);
                now.takeOver(kept);
            }
            if (passes) {
                found = n;
            }
        }
        return found;
    }

    public int trial(int seed, int n, int some) {
        if (seed < 0 || n < 1 || n > 20 || !areTests(some)) {
            return NONE;
        }
        if (top < 0) {
            return NOT_LAID;
        }
        kept.takeOver(now);
        spoilByDraws(seed, n);
        int found = 0;
        for (int k = 0; k <= top; k++) {
            if (!isRight(k) && checks.failed(k, some) != 0) {
                found++;
            }
        }
        now.takeOver(kept);
        return found;
    }

    public long remainder(int n, int what) {
        if (n < 1 || !isLaid(n) || !isPart(what)) {
            return NO;
        }
        checks.addUp(n, n);
        total.tell(worked);
        return worked.told(what);
    }

    public long triangleAt(int n, int j, int what) {
        if (n < 0 || j < 0 || n > LAST || j > LAST - n || !isPart(what)) {
            return NO;
        }
        triangle.begin(n + j);
        for (int k = 0; k < n; k++) {
            triangle.step();
        }
        triangle.tellPlace(j, worked);
        return worked.told(what);
    }

    public int whichBelow(int d) {
        if (d < 1) {
            return NONE;
        }
        for (int n = 2; n <= LAST; n += 2) {
            if (rightOnes.belowOf(n) == d) {
                return n;
            }
        }
        return NOT_SO_MANY;
    }

    // ---- irregular pairs, and what is worked out modulo a prime ----------------------------

    public int irregular(int p) {
        if (!isPrime(p)) {
            return NONE;
        }
        pairs.searchUpTo(p);
        return pairs.manyOf(p);
    }

    public int pair(int k, int what) {
        if (k < 0 || what < 0 || what > 1) {
            return NONE;
        }
        pairs.searchUpTo(GREATEST_PRIME);
        if (k >= pairs.size()) {
            return NOT_SO_MANY;
        }
        return what == 0 ? pairs.primeOf(k) : pairs.evenOf(k);
    }

    public int second(int k) {
        if (k < 0) {
            return NONE;
        }
        pairs.searchUpTo(GREATEST_PRIME);
        if (k >= pairs.size()) {
            return NOT_SO_MANY;
        }
        return secondOf(pairs.primeOf(k), pairs.evenOf(k));
    }

    public int far(int n, int p) {
        if (n < 2 || n > 1000000 || n % 2 != 0 || !isPrime(p)) {
            return NONE;
        }
        return n % (p - 1) == 0 ? NOT_TOLD : (int) Modulo.byPowerSum(n, p);
    }

    public int voronoi(int n, int a, int p) {
        if (!isEntry(n) || !isEvenFromTwo(n) || !isPrime(p) || a < 1 || a > p - 1) {
            return NONE;
        }
        long together = 0;
        for (int j = 1; j < p; j++) {
            together += Modulo.power(j, n - 1, p) * (j * a / p);
        }
        long factor = n * Modulo.power(a, n - 1, p);
        return (int) Modulo.least(together % p * factor, p);
    }

    public int byWay(int p, int way, int n) {
        if (!isPrime(p) || !isWay(way) || n < 0 || n > p - 2) {
            return NONE;
        }
        alone.fill(p, way);
        return (int) alone.residueOf(n);
    }

    public int nothings(int p, int way) {
        if (!isPrime(p) || !isWay(way)) {
            return NONE;
        }
        alone.fill(p, way);
        int many = 0;
        for (int n = 2; n <= p - 3; n += 2) {
            if (alone.residueOf(n) == 0) {
                many++;
            }
        }
        return many;
    }

    public int harmonic(int p) {
        if (!isPrime(p) || p < 5) {
            return NONE;
        }
        long square = (long) p * p;
        long cube = square * p;
        long together = 0;
        for (int a = 1; a < p; a++) {
            together += Modulo.inverse(a, cube);
        }
        return (int) (together % cube / square);
    }

    public int wilson(int p) {
        if (!isPrime(p)) {
            return NONE;
        }
        long square = (long) p * p;
        long product = 1;
        for (int a = 2; a < p; a++) {
            product = product * a % square;
        }
        return (int) ((product + 1) / p % p);
    }

    public int classNumber(int p) {
        if (!isPrime(p) || p < 7 || p % 4 != 3) {
            return NONE;
        }
        int together = 0;
        for (int a = 1; a < p; a++) {
            together -= Modulo.signOf(a, p) * a;
        }
        return together / p;
    }

    public long quadratic(int p, int n, int what) {
        if (!isPrime(p) || n < 1 || n > 4 || !isPart(what)) {
            return NO;
        }
        long together = 0;
        for (int a = 1; a <= p; a++) {
            together += Modulo.signOf(a, p) * homogeneous(rightOnes, n, a, p, COMMON_TO_4);
        }
        worked.become(0, together, COMMON_TO_4 * p);
        return worked.told(what);
    }

    public int regulars(int n) {
        if (n < LEAST_PRIME || n > GREATEST_PRIME) {
            return NONE;
        }
        pairs.searchUpTo(n);
        int many = 0;
        for (int p : PRIMES) {
            if (p >= LEAST_PRIME && p <= n && pairs.manyOf(p) == 0) {
                many++;
            }
        }
        return many;
    }

    // ---- sums of powers --------------------------------------------------------------------

    public long coefficient(int m, int j, int what) {
        if (m < 0 || m > MOST_POWER || j < 0 || j > m + 1 || what < 0 || what > 1) {
            return NO;
        }
        if (m > top) {
            return NOT_LAID;
        }
        worked.become(0, 0, 1);
        if (j > 0) {
            int k = m + 1 - j;
            now.fetch(k, worked);
            worked.whole += extra(k);
            worked.multiply(choose.of(m + 1, j));
            worked.divide(m + 1);
        }
        return what == 0 ? worked.overLine() : worked.below;
    }

    public int sum(int m, int n) {
        if (!isSum(m, n)) {
            return NONE;
        }
        if (m > top) {
            return NOT_LAID;
        }
        fillBigResidues(m);
        return (int) bigPolynomial(m, n);
    }

    public int digits(int m, int n) {
        if (!isSum(m, n)) {
            return NONE;
        }
        workSum(m, n);
        return decimal.size();
    }

    public int digit(int m, int n, int i) {
        if (!isSum(m, n) || i < 0) {
            return NONE;
        }
        workSum(m, n);
        return i >= decimal.size() ? NOT_SO_MANY : decimal.fromLeft(i);
    }

    public int progression(int m, int a, int d, int n) {
        if (!isSum(m, n) || a < 0 || a > 1000 || d < 1 || d > 1000) {
            return NONE;
        }
        if (m > top) {
            return NOT_LAID;
        }
        if (n == 0) {
            return 0;
        }
        fillBigResidues(m);
        long together = Modulo.power(a, m, BIG_PRIME) * n % BIG_PRIME;
        for (int j = 1; j <= m; j++) {
            long factor = choose.of(m, j) * Modulo.power(a, m - j, BIG_PRIME) % BIG_PRIME;
            factor = factor * Modulo.power(d, j, BIG_PRIME) % BIG_PRIME;
            together = (together + factor * bigPolynomial(j, n - 1)) % BIG_PRIME;
        }
        return (int) together;
    }

    public long triangular(int m, int j, int what) {
        if (m < 1 || m > MOST_TRIANGULAR || m % 2 == 0 || what < 0 || what > 1) {
            return NO;
        }
        if (j < 1 || j > (m + 1) / 2) {
            return NO;
        }
        if (m > top) {
            return NOT_LAID;
        }
        if (!splitInTriangles(m)) {
            return NOT_TOLD;
        }
        worked.become(0, otherRow[j] << j, COMMON_TO_15 * (m + 1));
        return what == 0 ? worked.overLine() : worked.below;
    }

    // ---- Bernoulli's polynomials -----------------------------------------------------------

    public long poly(int n, int k, int what) {
        if (!isEntry(n) || k < 0 || k > n || !isPart(what) || n - k > top) {
            return NO;
        }
        now.fetch(n - k, worked);
        worked.multiply(choose.of(n, k));
        return worked.told(what);
    }

    public long value(int n, int a, int b, int what) {
        if (n < 0 || n > 10 || a < -9 || a > 9 || b < 1 || b > 6 || !isPart(what) || n > top) {
            return NO;
        }
        long under = COMMON_TO_10;
        for (int k = 0; k < n; k++) {
            under *= b;
        }
        worked.become(0, homogeneous(now, n, a, b, COMMON_TO_10), under);
        return worked.told(what);
    }

    public int at(int n, int x, int p) {
        if (!isEntry(n) || !isPrime(p) || x < 0 || x > p - 1) {
            return NONE;
        }
        if (n > top) {
            return NOT_LAID;
        }
        return fillPolynomial(n, p) ? (int) polynomialAt(n, x, p) : NOT_TOLD;
    }

    public int roots(int n, int p) {
        if (!isEntry(n) || !isPrime(p)) {
            return NONE;
        }
        if (n > top) {
            return NOT_LAID;
        }
        if (!fillPolynomial(n, p)) {
            return NOT_TOLD;
        }
        int many = 0;
        for (int x = 0; x < p; x++) {
            if (polynomialAt(n, x, p) == 0) {
                many++;
            }
        }
        return many;
    }

    // ---- zeta, and numbers akin ------------------------------------------------------------

    public long zeta(int n, int what) {
        if (n < 0 || n >= LAST || !isPart(what) || n + 1 > top) {
            return NO;
        }
        now.fetch(n + 1, worked);
        if (n > 0) {
            worked.multiply(-1);
            worked.divide(n + 1);
        }
        return worked.told(what);
    }

    public long genocchi(int n) {
        if (n < 0 || n > 20 || n > top) {
            return NO;
        }
        now.fetch(n, worked);
        worked.multiply(2 * (1 - (1L << n)));
        return worked.above == 0 ? worked.whole : NO;
    }

    public long onto(int n, int k) {
        if (n < 0 || n > MOST_THINGS || k < 0 || k > MOST_THINGS) {
            return NO;
        }
        fillBoxes(n);
        return row[k] < 0 ? NO : row[k];
    }

    public long byBoxes(int n, int what) {
        if (n < 0 || n > MOST_BY_BOXES || !isPart(what)) {
            return NO;
        }
        fillBoxes(n);
        total.begin(COMMON_OF_BOXES);
        for (int k = 0; k <= n; k++) {
            if (row[k] < 0) {
                return NO;
            }
            int boxes = k + 1;
            total.add(k % 2 == 0 ? 1 : -1, row[k] / boxes, row[k] % boxes, boxes);
        }
        total.tell(worked);
        return worked.told(what);
    }

    public long zigzag(int n) {
        if (n < 0 || n > MOST_ZIGZAG) {
            return NO;
        }
        row[0] = 1;
        for (int r = 1; r <= n; r++) {
            System.arraycopy(row, 0, otherRow, 0, r);
            row[0] = 0;
            for (int k = 1; k <= r; k++) {
                row[k] = row[k - 1] + otherRow[r - k];
            }
        }
        return row[n];
    }

    public long tangent(int n) {
        if (n > 22 || !isEvenFromTwo(n) || n > top) {
            return NO;
        }
        long power = 1L << n;
        now.fetch(n, worked);
        worked.multiply(now.signOf(n) * power * (power - 1));
        worked.divide(n);
        return worked.above == 0 ? worked.whole : NO;
    }

    public int growth(int n) {
        if (n < 4 || n > LAST || n % 2 != 0) {
            return NONE;
        }
        if (n > top) {
            return NOT_LAID;
        }
        long ahead = Math.abs(now.wholeOf(n - 2));
        return ahead == 0 ? 0 : (int) (Math.abs(now.wholeOf(n)) / ahead);
    }

    public int count(int what) {
        switch (what) {
            case 0:
                return top;
            case 1:
                return manyNotRight();
            case 2:
                return memory.size();
            case 3:
                return manyOutdated();
            default:
                return NONE;
        }
    }

    // ---- what the calls may be asked -------------------------------------------------------

    private static boolean isEntry(int n) {
        return n >= 0 && n <= LAST;
    }

    private static boolean isWay(int way) {
        return way >= RECURRENCE && way <= SIEVE;
    }

    private static boolean isPart(int what) {
        return what >= 0 && what <= 2;
    }

    private static boolean areTests(int some) {
        return some >= 0 && some <= ALL_TESTS;
    }

    private static boolean isEvenFromTwo(int n) {
        return n >= 2 && n % 2 == 0;
    }

    private static boolean isSum(int m, int n) {
        return m >= 0 && m <= MOST_POWER && n >= 0 && n <= MOST_TERMS;
    }

    private static boolean isPrime(int p) {
        if (p < LEAST_PRIME || p > GREATEST_PRIME) {
            return false;
        }
        for (int q : PRIMES) {
            if (q == p) {
                return true;
            }
        }
        return false;
    }

    /** Whether a prime is one of those that BELOW of the right entry n has. */
    private static boolean isBelow(int q, int n) {
        if (n == 1) {
            return q == 2;
        }
        return isEvenFromTwo(n) && q > 1 && n % (q - 1) == 0;
    }

    private boolean isLaid(int n) {
        return n >= 0 && n <= top;
    }

    private boolean isRight(int n) {
        return now.alike(n, rightOnes);
    }

    private boolean allRightBelow(int n) {
        for (int k = 0; k < n; k++) {
            if (!isRight(k)) {
                return false;
            }
        }
        return true;
    }

    private int manyNotRight() {
        int many = 0;
        for (int n = 0; n <= top; n++) {
            if (!isRight(n)) {
                many++;
            }
        }
        return many;
    }

    // ---- the three ways --------------------------------------------------------------------

    /** Answers whether the entry is another one then. */
    private boolean layOne(int n, int way) {
        work(n, way);
        boolean another = !now.holds(n, worked);
        now.store(n, worked);
        noteWay(n, way);
        return another;
    }

    private void noteWay(int n, int way) {
        if (n >= 0 && n < ways.length) {
            ways[n] = way;
        }
    }

    private void work(int n, int way) {
        if (way == RECURRENCE) {
            workRecurrence(n);
        } else if (way == TRIANGLE) {
            workTriangle(n);
        } else {
            workSieve(n);
        }
    }

    private void workRecurrence(int n) {
        if (n < 1) {
            workAsTold(n);
            return;
        }
        checks.addUp(n, n - 1);
        total.tell(worked);
        worked.multiply(-1);
        worked.divide(n + 1);
    }

    private void workTriangle(int n) {
        triangle.begin(n);
        for (int k = 0; k < n; k++) {
            triangle.step();
        }
        triangle.tellEntry(n, worked);
    }

    private void workSieve(int n) {
        if (!isEvenFromTwo(n)) {
            workAsTold(n);
            return;
        }
        total.begin(COMMON);
        total.add(1, sievedWhole(n), 0, 1);
        addPrimesBelow(n, -1);
        total.tell(worked);
    }

    private void workAsTold(int n) {
        if (n == 0) {
            worked.become(1, 0, 1);
        } else if (n == 1) {
            worked.become(0, -1, 2);
        } else {
            worked.become(0, 0, 1);
        }
    }

    private void addPrimesBelow(int n, int factor) {
        for (int q : PRIMES) {
            if (isBelow(q, n)) {
                total.add(factor, 0, 1, q);
            }
        }
    }

    /** The whole number of whole(), put together from its residues by the Chinese remainders. */
    private long sievedWhole(int n) {
        long found = 0;
        long product = 1;
        for (int i = FIRST_SIEVING; i < FIRST_SIEVING + SIEVING && i < PRIMES.length; i++) {
            int p = PRIMES[i];
            long residue = Modulo.powerSum(n, p, (long) p * p) / p + inversesBelow(n, p);
            long gap = Modulo.least(residue - found, p);
            found += product * (gap * Modulo.inverse(product, p) % p);
            product *= p;
        }
        return found > product / 2 ? found - product : found;
    }

    private static long inversesBelow(int n, int p) {
        long together = 0;
        for (int q : PRIMES) {
            if (isBelow(q, n)) {
                together += Modulo.inverse(q, p);
            }
        }
        return together;
    }

    // ---- what the memo and the tests need --------------------------------------------------

    private int residueNow(int n, int p) {
        if (p < LEAST_PRIME || now.belowOf(n) % p == 0) {
            return NOT_TOLD;
        }
        return (int) now.modulo(n, p);
    }

    private boolean holdsStill(int k) {
        return residueNow(memory.entryOf(k), memory.primeOf(k)) == memory.answerOf(k);
    }

    private int manyOutdated() {
        int many = 0;
        for (int k = 0; k < memory.size(); k++) {
            if (!holdsStill(k)) {
                many++;
            }
        }
        return many;
    }

    private long failingOnes(int some) {
        long failing = 0;
        for (int n = 0; n <= top; n++) {
            if (checks.failed(n, some) != 0) {
                failing |= 1L << n;
            }
        }
        return failing;
    }

    private boolean allPass(int some) {
        for (int n = 0; n <= top; n++) {
            if (checks.failed(n, some) != 0) {
                return false;
            }
        }
        return true;
    }

    private void spoilByDraws(int seed, int times) {
        long last = seed;
        for (int i = 0; i < times; i++) {
            last = nextDraw(last);
            int n = (int) ((last >> 16) % (top + 1L));
            last = nextDraw(last);
            long d = (last >> 16) % 9 + 1;
            last = nextDraw(last);
            boolean less = (last >> 16) % 2 == 1;
            now.increase(n, less ? -d : d);
        }
    }

    private static long nextDraw(long last) {
        return last * 1103515245L + 12345L & 0x7fffffffL;
    }

    /** Entries by their numbers, p - 1 apart, go modulo p times p in equal steps (Kummer). */
    private static int secondOf(int p, int k) {
        if (p < LEAST_PRIME) {
            return NOT_TOLD;
        }
        long square = (long) p * p;
        long first = byNumber(k, p);
        long step = byNumber(k + p - 1, p) - first;
        for (int t = 0; t < p; t++) {
            if (Modulo.least(first + t * step, square) == 0) {
                return k + t * (p - 1);
            }
        }
        return NOT_TOLD;
    }

    /** The right entry n by n modulo p times p; n isn't divisible by p, and of an irregular pair. */
    private static long byNumber(int n, int p) {
        if (p < LEAST_PRIME) {
            return 0;
        }
        long square = (long) p * p;
        long entry = Modulo.powerSum(n, p, square * p) / p;
        return entry * Modulo.inverse(n, square) % square;
    }

    // ---- what polynomials and sums need ----------------------------------------------------

    /** The sum of C(n, k) times scale times entry (n - k) times a^k times b^(n - k). */
    private long homogeneous(Entries entries, int n, long a, long b, long scale) {
        long together = 0;
        long power = 1;
        for (int k = n; k >= 0; k--) {
            together = together * a + choose.of(n, k) * entries.scaled(n - k, scale) * power;
            power *= b;
        }
        return together;
    }

    /** Of entry 1 sums of powers take what it is and 1. */
    private static int extra(int k) {
        return k == 1 ? 1 : 0;
    }

    private void fillBigResidues(int m) {
        for (int k = 0; k <= m && k < row.length; k++) {
            row[k] = now.modulo(k, BIG_PRIME) + extra(k);
        }
    }

    /** The polynomial of m at x modulo the big prime, from the residues in the row. */
    private long bigPolynomial(int m, long x) {
        if (m < 0 || m >= row.length) {
            return 0;
        }
        long together = 0;
        for (int j = m + 1; j >= 1; j--) {
            long term = choose.of(m + 1, j) * row[m + 1 - j] % BIG_PRIME;
            together = (together * x + term) % BIG_PRIME;
        }
        return together * x % BIG_PRIME * Modulo.inverse(m + 1, BIG_PRIME) % BIG_PRIME;
    }

    private void workSum(int m, int n) {
        decimal.clear();
        for (int j = m + 1; j >= 1; j--) {
            int k = m + 1 - j;
            long scaled = rightOnes.scaled(k, COMMON_TO_24) + extra(k) * COMMON_TO_24;
            decimal.multiplyAndAdd(n, choose.of(m + 1, j) * scaled);
        }
        decimal.multiplyAndAdd(n, 0);
        decimal.divide(COMMON_TO_24);
        decimal.divide(m + 1);
        decimal.measure();
    }

    /**
     * Powers of N * (N + 1) are taken off the polynomial from above; what was taken is in the other
     * row, all of it times COMMON_TO_15 * (m + 1). Answers whether nothing is left.
     */
    private boolean splitInTriangles(int m) {
        if (m < 1 || m + 1 >= row.length) {
            return false;
        }
        for (int j = 1; j <= m + 1; j++) {
            int k = m + 1 - j;
            long scaled = now.scaled(k, COMMON_TO_15) + extra(k) * COMMON_TO_15;
            row[j] = choose.of(m + 1, j) * scaled;
        }
        for (int h = (m + 1) / 2; h >= 1; h--) {
            long taken = row[2 * h];
            otherRow[h] = taken;
            for (int i = 0; i <= h; i++) {
                row[h + i] -= taken * choose.of(h, i);
            }
            if (row[2 * h - 1] != 0) {
                return false;
            }
        }
        return true;
    }

    /** Answers whether it can be: p divides no BELOW of the entries. */
    private boolean fillPolynomial(int n, int p) {
        if (p < LEAST_PRIME) {
            return false;
        }
        for (int k = 0; k <= n && k < row.length; k++) {
            if (now.belowOf(k) % p == 0) {
                return false;
            }
            row[k] = choose.of(n, k) % p * now.modulo(k, p) % p;
        }
        return true;
    }

    /** The row has at k what belongs to x to the power (n - k). */
    private long polynomialAt(int n, long x, int p) {
        if (p < LEAST_PRIME) {
            return 0;
        }
        long together = 0;
        for (int k = 0; k <= n && k < row.length; k++) {
            together = (together * x + row[k]) % p;
        }
        return together;
    }

    /** The row has ONTO n, k at k; -1 where it is more than a long holds. */
    private void fillBoxes(int n) {
        Arrays.fill(row, 0);
        row[0] = 1;
        for (int things = 1; things <= n; things++) {
            for (int k = Math.min(things, MOST_THINGS); k >= 1; k--) {
                row[k] = timesTogether(k, row[k], row[k - 1]);
            }
            row[0] = 0;
        }
    }

    private static long timesTogether(int k, long a, long b) {
        if (k < 1 || a < 0 || b < 0 || a > Long.MAX_VALUE - b || a + b > Long.MAX_VALUE / k) {
            return -1;
        }
        return k * (a + b);
    }

    // ---- classes ---------------------------------------------------------------------------

    /** Arithmetic modulo a number above 0; of another one all of it is 0. */
    private static final class Modulo {
        private Modulo() {
        }

        static long least(long a, long m) {
            return m > 0 ? Math.floorMod(a, m) : 0;
        }

        static long power(long base, int exponent, long m) {
            if (m <= 0) {
                return 0;
            }
            long result = 1 % m;
            long square = Math.floorMod(base, m);
            for (int bit = 0; bit < 31 && exponent >> bit > 0; bit++) {
                if ((exponent >> bit & 1) == 1) {
                    result = result * square % m;
                }
                square = square * square % m;
            }
            return result;
        }

        /** What makes 1 with a, which has no divisor with m but 1. */
        static long inverse(long a, long m) {
            if (m <= 0) {
                return 0;
            }
            long ahead = m;
            long rest = Math.floorMod(a, m);
            long timesAhead = 0;
            long times = 1;
            for (int i = 0; i < 100 && rest > 0; i++) {
                long quotient = ahead / rest;
                long nextRest = ahead - quotient * rest;
                long nextTimes = timesAhead - quotient * times;
                ahead = rest;
                rest = nextRest;
                timesAhead = times;
                times = nextTimes;
            }
            return Math.floorMod(timesAhead, m);
        }

        static long powerSum(int n, int p, long m) {
            if (m <= 0) {
                return 0;
            }
            long together = 0;
            for (int a = 1; a < p; a++) {
                together += power(a, n, m);
            }
            return together % m;
        }

        /** The residue of the right entry n, even, not divisible by p - 1. */
        static long byPowerSum(int n, int p) {
            return p > 0 ? powerSum(n, p, (long) p * p) / p : 0;
        }

        static int signOf(int a, int p) {
            long power = power(a, (p - 1) / 2, p);
            return power > 1 ? -1 : (int) power;
        }
    }

    /** A fraction as it is told: above is 0 at least and less than below, in lowest terms. */
    private static final class Fraction {
        long whole;
        long above;
        long below = 1;

        void become(long newWhole, long newAbove, long newBelow) {
            if (newBelow <= 0) {
                return;
            }
            long left = Math.floorMod(newAbove, newBelow);
            long divisor = commonDivisor(left, newBelow);
            whole = newWhole + Math.floorDiv(newAbove, newBelow);
            above = left / divisor;
            below = newBelow / divisor;
        }

        void multiply(long factor) {
            become(factor * whole, factor * above, below);
        }

        void divide(long by) {
            if (by > 0) {
                long left = Math.floorMod(whole, by);
                become(Math.floorDiv(whole, by), left * below + above, below * by);
            }
        }

        long told(int what) {
            if (what == 0) {
                return whole;
            }
            return what == 1 ? above : below;
        }

        long overLine() {
            return whole * below + above;
        }

        /** By long division, as whole * below and above together may be more than a long holds. */
        int oftenAbove(int p) {
            if (p < 2 || whole == 0 && above == 0) {
                return 0;
            }
            long high = whole;
            long low = above;
            for (int times = 0; times < 64; times++) {
                long carried = Math.floorMod(high, (long) p) * below + low;
                if (carried % p != 0) {
                    return times;
                }
                high = Math.floorDiv(high, (long) p);
                low = carried / p;
            }
            return 64;
        }

        int oftenBelow(int p) {
            if (p < 2) {
                return 0;
            }
            long left = below;
            for (int times = 0; times < 64; times++) {
                if (left % p != 0) {
                    return times;
                }
                left /= p;
            }
            return 64;
        }

        private static long commonDivisor(long a, long b) {
            long greater = b;
            long less = a;
            for (int i = 0; i < 100 && less > 0; i++) {
                long left = greater % less;
                greater = less;
                less = left;
            }
            return greater > 0 ? greater : 1;
        }
    }

    /** Entries 0 to LAST, each a fraction as it is told. */
    private static final class Entries {
        private final long[] wholes = new long[ENTRIES];
        private final long[] aboves = new long[ENTRIES];
        private final long[] belows = new long[ENTRIES];
        private final Fraction spare = new Fraction();

        Entries() {
            Arrays.fill(belows, 1);
        }

        private static boolean fits(int n) {
            return n >= 0 && n < ENTRIES;
        }

        long wholeOf(int n) {
            return fits(n) ? wholes[n] : 0;
        }

        long aboveOf(int n) {
            return fits(n) ? aboves[n] : 0;
        }

        long belowOf(int n) {
            return fits(n) ? belows[n] : 1;
        }

        int signOf(int n) {
            if (wholeOf(n) < 0) {
                return -1;
            }
            return wholeOf(n) == 0 && aboveOf(n) == 0 ? 0 : 1;
        }

        void store(int n, Fraction from) {
            if (fits(n)) {
                wholes[n] = from.whole;
                aboves[n] = from.above;
                belows[n] = from.below;
            }
        }

        void fetch(int n, Fraction into) {
            into.become(wholeOf(n), aboveOf(n), belowOf(n));
        }

        boolean holds(int n, Fraction other) {
            return wholeOf(n) == other.whole
                && aboveOf(n) == other.above
                && belowOf(n) == other.below;
        }

        boolean alike(int n, Entries others) {
            return wholeOf(n) == others.wholeOf(n)
                && aboveOf(n) == others.aboveOf(n)
                && belowOf(n) == others.belowOf(n);
        }

        void takeOver(Entries others) {
            System.arraycopy(others.wholes, 0, wholes, 0, ENTRIES);
            System.arraycopy(others.aboves, 0, aboves, 0, ENTRIES);
            System.arraycopy(others.belows, 0, belows, 0, ENTRIES);
        }

        /** The entry is d by its below more. */
        void increase(int n, long d) {
            spare.become(wholeOf(n), aboveOf(n) + d, belowOf(n));
            store(n, spare);
        }

        /** The residue; m and the entry's below have no divisor together but 1. */
        long modulo(int n, long m) {
            return Modulo.least(wholeOf(n) + aboveOf(n) * Modulo.inverse(belowOf(n), m), m);
        }

        /** The entry times a number that its below divides. */
        long scaled(int n, long scale) {
            long below = belowOf(n);
            return below > 0 ? wholeOf(n) * scale + aboveOf(n) * (scale / below) : 0;
        }
    }

    /** C(n, k), of n to LAST + 3. */
    private static final class Choose {
        private static final int ROWS = LAST + 4;
        private final long[] cells = new long[ROWS * ROWS];

        Choose() {
            for (int n = 0; n < ROWS; n++) {
                cells[n * ROWS] = 1;
                for (int k = 1; k <= n; k++) {
                    int ahead = (n - 1) * ROWS + k;
                    cells[n * ROWS + k] = cells[ahead - 1] + cells[ahead];
                }
            }
        }

        long of(int n, int k) {
            return n >= 0 && n < ROWS && k >= 0 && k < ROWS ? cells[n * ROWS + k] : 0;
        }
    }

    /** A sum of fractions whose belows all divide one number: a whole number, and a part of that. */
    private static final class Total {
        private long under = 1;
        private long whole;
        private long part;

        void begin(long common) {
            under = Math.max(common, 1);
            whole = 0;
            part = 0;
        }

        void add(long factor, long entryWhole, long above, long below) {
            if (below <= 0) {
                return;
            }
            long over = factor * above;
            whole += factor * entryWhole + Math.floorDiv(over, below);
            part += Math.floorMod(over, below) * (under / below);
            if (part >= under) {
                part -= under;
                whole++;
            }
        }

        boolean isNothing() {
            return whole == 0 && part == 0;
        }

        void tell(Fraction into) {
            into.become(whole, part, under);
        }
    }

    /** A row of the triangle at a time, each place a whole number and a part of COMMON_OF_ROWS. */
    private static final class Triangle {
        /** The least number that all from 1 to 39 divide. */
        private static final long COMMON_OF_ROWS = 5342931457063200L;
        private final long[] wholes = new long[ENTRIES];
        private final long[] parts = new long[ENTRIES];
        private int last;

        /** Row 0, as far as the place told; each step leaves one place less. */
        void begin(int lastPlace) {
            last = Math.min(lastPlace, LAST);
            for (int j = 0; j <= last; j++) {
                wholes[j] = j == 0 ? 1 : 0;
                parts[j] = j == 0 ? 0 : COMMON_OF_ROWS / (j + 1);
            }
        }

        void step() {
            for (int j = 0; j < last && j + 1 < ENTRIES; j++) {
                long part = (j + 1) * (parts[j] - parts[j + 1]);
                wholes[j] = (j + 1) * (wholes[j] - wholes[j + 1])
                    + Math.floorDiv(part, COMMON_OF_ROWS);
                parts[j] = Math.floorMod(part, COMMON_OF_ROWS);
            }
            last--;
        }

        void tellPlace(int j, Fraction into) {
            if (j >= 0 && j < ENTRIES) {
                into.become(wholes[j], parts[j], COMMON_OF_ROWS);
            }
        }

        /** What entry n is when row n stands here: of 1 the triangle has 1 too much. */
        void tellEntry(int n, Fraction into) {
            tellPlace(0, into);
            if (n == 1) {
                into.whole--;
            }
        }
    }

    /** The tests of entries as they stand. */
    private static final class Checks {
        /** Where the primes 5 and 37 stand among PRIMES. */
        private static final int FIRST_KUMMER = 2;
        private static final int LAST_KUMMER = 11;
        private final Entries entries;
        private final Choose choose;
        private final Total total;

        Checks(Entries entries, Choose choose, Total total) {
            this.entries = entries;
            this.choose = choose;
            this.total = total;
        }

        /** Which of some tests an entry fails. */
        int failed(int n, int some) {
            int bits = 0;
            if ((some & 1) != 0 && failsBelow(n)) {
                bits |= 1;
            }
            if ((some & 2) != 0 && entries.signOf(n) != dueSign(n)) {
                bits |= 2;
            }
            if ((some & 4) != 0 && failsRecurrence(n)) {
                bits |= 4;
            }
            if ((some & 8) != 0 && failsKummer(n)) {
                bits |= 8;
            }
            if ((some & 16) != 0 && failsDivisor(n)) {
                bits |= 16;
            }
            if ((some & 32) != 0 && failsSixth(n)) {
                bits |= 32;
            }
            return bits;
        }

        /** C(n + 1, k) times entry k, k from 0 to last, in the total. */
        void addUp(int n, int last) {
            total.begin(COMMON);
            for (int k = 0; k <= last; k++) {
                addEntry(choose.of(n + 1, k), k);
            }
        }

        int kummerOf(int p, int m, int n) {
            if (!isTold(p, m) || !isTold(p, n) || (m - n) % (p - 1) != 0) {
                return NOT_TOLD;
            }
            return (int) Modulo.least(byNumber(m, p) - byNumber(n, p), p);
        }

        int kummerTwiceOf(int p, int m, int n) {
            if (!isTold(p, m) || !isTold(p, n) || (m - n) % (p * (p - 1)) != 0) {
                return NOT_TOLD;
            }
            long square = (long) p * p;
            long one = byNumber(m, square) * (1 - Modulo.power(p, m - 1, square));
            long other = byNumber(n, square) * (1 - Modulo.power(p, n - 1, square));
            return (int) Modulo.least(one - other, square);
        }

        /** What KUMMER asks of each of its two numbers. */
        private boolean isTold(int p, int n) {
            return p > 1 && isEvenFromTwo(n) && n % (p - 1) != 0 && n % p != 0
                && entries.belowOf(n) % p != 0;
        }

        /** The residue of an entry by its number. */
        private long byNumber(int n, long m) {
            if (m <= 0) {
                return 0;
            }
            long below = entries.belowOf(n);
            long over = entries.wholeOf(n) % m * below + entries.aboveOf(n);
            return over % m * Modulo.inverse(n * below, m) % m;
        }

        private void addEntry(long factor, int k) {
            total.add(factor, entries.wholeOf(k), entries.aboveOf(k), entries.belowOf(k));
        }

        private boolean failsBelow(int n) {
            long product = 1;
            for (int q : PRIMES) {
                if (isBelow(q, n)) {
                    product *= q;
                }
            }
            return entries.belowOf(n) != product;
        }

        private static int dueSign(int n) {
            if (n == 0) {
                return 1;
            }
            if (n % 2 != 0) {
                return n == 1 ? -1 : 0;
            }
            return n % 4 == 2 ? 1 : -1;
        }

        private boolean failsRecurrence(int n) {
            if (n < 1) {
                return false;
            }
            addUp(n, n);
            return !total.isNothing();
        }

        private boolean failsKummer(int n) {
            for (int i = FIRST_KUMMER; i <= LAST_KUMMER && i < PRIMES.length; i++) {
                int p = PRIMES[i];
                for (int m = n - p + 1; m >= 2; m -= Math.max(p - 1, 1)) {
                    if (kummerOf(p, m, n) > 0) {
                        return true;
                    }
                }
            }
            return false;
        }

        private boolean failsDivisor(int n) {
            if (!isEvenFromTwo(n)) {
                return false;
            }
            for (int i = FIRST_KUMMER; i < PRIMES.length; i++) {
                int p = PRIMES[i];
                if (p < 2 || p > n || n % p != 0 || n % (p - 1) == 0) {
                    continue;
                }
                if (entries.belowOf(n) % p == 0 || entries.modulo(n, p) != 0) {
                    return true;
                }
            }
            return false;
        }

        private boolean failsSixth(int n) {
            if (n % 2 != 0) {
                return false;
            }
            total.begin(COMMON);
            for (int k = n; k >= 0; k -= 6) {
                addEntry(choose.of(n + 3, k), k);
            }
            if (n % 6 == 4) {
                total.add(n + 3, 0, 1, 6);
            } else {
                total.add(-(n + 3), 0, 1, 3);
            }
            return !total.isNothing();
        }
    }

    /** What was answered last of an entry modulo a prime, the eldest first. */
    private static final class Memo {
        private static final int MOST = 20;
        private final int[] numbers = new int[MOST];
        private final int[] primes = new int[MOST];
        private final int[] answers = new int[MOST];
        private int size;

        int size() {
            return size;
        }

        int entryOf(int k) {
            return fits(k) ? numbers[k] : NONE;
        }

        int primeOf(int k) {
            return fits(k) ? primes[k] : NONE;
        }

        int answerOf(int k) {
            return fits(k) ? answers[k] : NONE;
        }

        void remember(int n, int p, int answer) {
            int place = placeOf(n, p);
            if (place == MOST) {
                dropEldest();
                place = MOST - 1;
            }
            if (place == size) {
                size++;
            }
            if (fits(place)) {
                numbers[place] = n;
                primes[place] = p;
                answers[place] = answer;
            }
        }

        private boolean fits(int k) {
            return k >= 0 && k < size && k < MOST;
        }

        /** Behind the last one, if it isn't there. */
        private int placeOf(int n, int p) {
            for (int k = 0; k < size && k < MOST; k++) {
                if (numbers[k] == n && primes[k] == p) {
                    return k;
                }
            }
            return size;
        }

        private void dropEldest() {
            System.arraycopy(numbers, 1, numbers, 0, MOST - 1);
            System.arraycopy(primes, 1, primes, 0, MOST - 1);
            System.arraycopy(answers, 1, answers, 0, MOST - 1);
            size = MOST - 1;
        }
    }

    /** Residues of right entries 0 to p - 2 modulo p, by a way, without any fraction. */
    private static final class ByWays {
        private final long[] found = new long[GREATEST_PRIME + 1];
        private final long[] cells = new long[GREATEST_PRIME + 1];
        private int filledPrime;
        private int filledWay;

        long residueOf(int n) {
            return n >= 0 && n < found.length ? found[n] : 0;
        }

        /** What stands here already isn't worked out again. */
        void fill(int p, int way) {
            if (p < LEAST_PRIME || p > GREATEST_PRIME || p == filledPrime && way == filledWay) {
                return;
            }
            filledPrime = p;
            filledWay = way;
            if (way == RECURRENCE) {
                fillByRecurrence(p);
            } else if (way == TRIANGLE) {
                fillByTriangle(p);
            } else {
                fillByPowers(p);
            }
        }

        /** The cells are C(n + 1, k) modulo p. */
        private void fillByRecurrence(int p) {
            Arrays.fill(cells, 0);
            cells[0] = 1;
            cells[1] = 1;
            found[0] = 1;
            for (int n = 1; n <= p - 2 && n + 1 < cells.length; n++) {
                for (int k = n + 1; k >= 1; k--) {
                    cells[k] = (cells[k] + cells[k - 1]) % p;
                }
                long together = 0;
                for (int k = 0; k < n; k++) {
                    together += cells[k] * found[k];
                }
                found[n] = (p - together % p) * Modulo.inverse(n + 1, p) % p;
            }
        }

        private void fillByTriangle(int p) {
            for (int j = 0; j <= p - 2 && j < cells.length; j++) {
                cells[j] = Modulo.inverse(j + 1, p);
            }
            for (int n = 0; n <= p - 2 && n < found.length; n++) {
                found[n] = cells[0];
                for (int j = 0; j < p - 2 - n && j + 1 < cells.length; j++) {
                    cells[j] = (j + 1) * (cells[j] + p - cells[j + 1]) % p;
                }
            }
            found[1] = (found[1] + p - 1) % p;
        }

        /** The cells are a to the power n modulo p times p. */
        private void fillByPowers(int p) {
            long square = (long) p * p;
            Arrays.fill(found, 0);
            Arrays.fill(cells, 1);
            found[0] = 1;
            found[1] = (p - Modulo.inverse(2, p)) % p;
            for (int n = 2; n <= p - 3 && n < found.length; n += 2) {
                long together = 0;
                for (int a = 1; a < p && a < cells.length; a++) {
                    cells[a] = cells[a] * (a * a) % square;
                    together += cells[a];
                }
                found[n] = together % square / p;
            }
        }
    }

    /** The irregular pairs found so far; each prime is searched once. */
    private static final class Pairs {
        private static final int MOST = 100;
        private final ByWays byWays;
        private final int[] primes = new int[MOST];
        private final int[] evens = new int[MOST];
        private int size;
        private int searched = 1;

        Pairs(ByWays byWays) {
            this.byWays = byWays;
        }

        int size() {
            return size;
        }

        int primeOf(int k) {
            return k >= 0 && k < size && k < MOST ? primes[k] : NONE;
        }

        int evenOf(int k) {
            return k >= 0 && k < size && k < MOST ? evens[k] : NONE;
        }

        int manyOf(int p) {
            int many = 0;
            for (int k = 0; k < size && k < MOST; k++) {
                if (primes[k] == p) {
                    many++;
                }
            }
            return many;
        }

        void searchUpTo(int limit) {
            while (searched > 0 && searched < PRIMES.length && PRIMES[searched] <= limit) {
                search(PRIMES[searched]);
                searched++;
            }
        }

        private void search(int p) {
            byWays.fill(p, SIEVE);
            for (int k = 2; k <= p - 3 && size < MOST; k += 2) {
                if (byWays.residueOf(k) == 0) {
                    primes[size] = p;
                    evens[size] = k;
                    size++;
                }
            }
        }
    }

    /** A whole number of up to 252 digits; one below 0 stands as what it is above 10^252 less. */
    private static final class Decimal {
        private static final long BASE = 1000000000L;
        private static final int PLACES = 9;
        private static final int LIMBS = 28;
        private final long[] limbs = new long[LIMBS];
        private int size = 1;

        void clear() {
            Arrays.fill(limbs, 0);
        }

        /** The factor is 0 to BASE; what is added may be below 0. */
        void multiplyAndAdd(long factor, long added) {
            long carried = added;
            for (int i = 0; i < LIMBS; i++) {
                long limb = limbs[i] * factor + carried;
                limbs[i] = Math.floorMod(limb, BASE);
                carried = Math.floorDiv(limb, BASE);
            }
        }

        void divide(long by) {
            if (by <= 0) {
                return;
            }
            long left = 0;
            for (int i = LIMBS - 1; i >= 0; i--) {
                long limb = left * BASE + limbs[i];
                limbs[i] = limb / by;
                left = limb % by;
            }
        }

        /** Finds how many digits there are, for size() and fromLeft(). */
        void measure() {
            size = LIMBS * PLACES;
            while (size > 1 && fromRight(size - 1) == 0) {
                size--;
            }
        }

        int size() {
            return size;
        }

        int fromLeft(int i) {
            return fromRight(size - 1 - i);
        }

        private int fromRight(int i) {
            if (i < 0 || i >= LIMBS * PLACES) {
                return 0;
            }
            long limb = limbs[i / PLACES];
            for (int k = 0; k < i % PLACES; k++) {
                limb /= 10;
            }
            return (int) (limb % 10);
        }
    }
}
