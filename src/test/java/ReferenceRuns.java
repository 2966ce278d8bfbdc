import java.lang.reflect.InvocationTargetException;
import java.lang.reflect.Method;
import java.math.BigInteger;
import java.util.ArrayList;
import java.util.HashMap;
import java.util.List;
import java.util.Map;
import java.util.NoSuchElementException;
import java.util.Random;
import java.util.Set;
import java.util.TreeSet;

/**
 * Runs of calls drawn by chance, each answered by BernoulliWays and by a model that is written from
 * the document alone, with exact fractions; where it can, it takes another road than the class.
 */
public final class ReferenceRuns {
    private static final int RUNS = 160;
    private static final int MOST_TOLD = 20;

    /**
     * The calls: a weight, the name, and of each parameter what is drawn: a range, "prime", or
     * "some" for bits of tests.
     */
    private static final String[] CALLS = {
        "12 lay 0..38 0..2", "9 relay entry 0..2", "30 spoil entry -9..9", "5 heal some",
        "5 number entry 0..2", "3 way entry", "3 right entry", "4 agree entry", "2 prime 0..38 0..7",
        "2 whole 2..38", "12 residue entry prime", "3 byPowers 0..38 prime", "8 memo 0..20 0..3",
        "6 often entry smallPrime", "6 kummer smallPrime entry entry",
        "6 kummerTwice tinyPrime entry entry", "10 tests entry", "6 suspects some", "4 broken 0..1",
        "4 culprit some", "5 trial seed 1..20 some", "4 remainder 1..38 0..2",
        "3 triangleAt 0..38 0..38 0..2", "1 whichBelow 1..2800", "1 irregular prime", "1 pair 0..9 0..1",
        "1 second 0..9", "3 far 2..1000000 prime", "3 voronoi 2..38 1..198 prime",
        "3 byWay prime 0..2 0..197", "1 nothings prime 0..2", "1 harmonic prime", "1 wilson prime",
        "1 classNumber prime", "3 quadratic prime 1..4 0..2", "1 regulars 3..199",
        "5 coefficient 0..24 0..25 0..1", "5 sum 0..24 0..1000000000", "2 digits 0..24 0..1000000000",
        "2 digit 0..24 0..1000000000 0..230", "4 progression 0..24 0..1000 1..1000 0..1000000000",
        "6 triangular 1..15 1..8 0..1", "4 poly 0..38 0..38 0..2", "5 value 0..10 -9..9 1..6 0..2",
        "5 at 0..38 0..198 prime", "2 roots 0..38 prime", "4 zeta 0..37 0..2", "4 genocchi 0..20",
        "2 onto 0..30 0..30", "2 byBoxes 0..20 0..2", "1 zigzag 0..23", "4 tangent 2..22",
        "4 growth 4..38", "6 count 0..3"
    };

    private static int wrong = 0;
    private static long compared = 0;

    public static void main(String[] args) throws Exception {
        for (int seed = 1; seed <= RUNS; seed++) {
            run(seed);
        }
        sumsByHand();
        for (String call : SWEEPS) {
            sweep(call, 38);
        }
        sweep("coefficient -1..25 -1..27 0..1", 12);
        sweep("poly -1..39 -1..39 0..2", 12);
        sweep("zeta -1..38 0..2", 12);
        corners();
        for (int n = 0; n <= 38; n++) {
            toTheLastCall(n, 9);
            toTheLastCall(n, -9);
        }
        System.out.println(compared + " answers compared, " + wrong + " wrong");
        if (wrong != 0) {
            System.exit(1);
        }
    }

    private static void run(int seed) throws Exception {
        Random chance = new Random(seed);
        BernoulliWays real = new BernoulliWays();
        Model model = new Model();
        int length = seed % 4 == 0 ? 512 : 40 + chance.nextInt(200);
        int loved = chance.nextInt(39);
        List<String> told = new ArrayList<>();
        for (int i = 0; i < length; i++) {
            String[] call = CALLS[draw(chance)].split(" ");
            if (seed % 8 == 0 && chance.nextInt(3) > 0) {
                call = "30 spoil loved -9..9".split(" ");
            } else if (seed % 2 == 1 && i < 3) {
                call = "12 lay 20..38 0..2".split(" ");
            }
            Object[] values = new Object[call.length - 2];
            for (int k = 0; k < values.length; k++) {
                values[k] = argument(call[k + 2], chance, model.table.size(), loved);
            }
            if (call[1].startsWith("kummer") && chance.nextInt(4) > 0) {
                bringTogether(call[1], values, chance, model.table.size());
            }
            String due = answer(model, call[1], values);
            String got = answer(real, call[1], values);
            compared++;
            told.add(call[1] + List.of(values) + " answered " + got);
            if (!got.equals(due)) {
                wrong++;
                System.out.println("run " + seed + ", call " + i + ", due is " + due + ":");
                for (String line : told.subList(Math.max(0, told.size() - MOST_TOLD), told.size())) {
                    System.out.println("    " + line);
                }
                return;
            }
        }
    }

    /** Two numbers by chance are seldom alike modulo p - 1. */
    private static void bringTogether(String name, Object[] values, Random chance, int laid) {
        int p = (Integer) values[0];
        int m = (Integer) values[1];
        if (!Model.isPrime(p) || m < 0 || laid == 0) {
            return;
        }
        int step = name.equals("kummer") ? p - 1 : p * (p - 1);
        values[2] = m % step + step * chance.nextInt((laid - 1) / step + 1);
    }

    /** Calls over all that they may be asked, and a little beyond; an object answers 500 of them. */
    private static void sweep(String call, int laid) throws Exception {
        String[] words = call.split(" ");
        int[][] choices = new int[words.length - 1][];
        for (int i = 0; i < choices.length; i++) {
            choices[i] = choicesOf(words[i + 1]);
        }
        int[] at = new int[choices.length];
        BernoulliWays real = null;
        Model model = null;
        for (int i = 0; at[0] < choices[0].length; i++) {
            if (i % 500 == 0) {
                real = new BernoulliWays();
                model = new Model();
                real.lay(laid, i / 500 % 3);
                model.lay(laid, i / 500 % 3);
            }
            Object[] values = new Object[choices.length];
            for (int k = 0; k < values.length; k++) {
                values[k] = choices[k][at[k]];
            }
            String due = answer(model, words[0], values);
            String got = answer(real, words[0], values);
            compared++;
            if (!got.equals(due)) {
                wrong++;
                System.out.println(words[0] + List.of(values) + " answered " + got + ", due is " + due);
            }
            int last = choices.length - 1;
            at[last]++;
            while (last > 0 && at[last] == choices[last].length) {
                at[last--] = 0;
                at[last]++;
            }
        }
    }

    /**
     * Each call with all that can be put together of numbers at ends of ranges, and far beyond; asked
     * of a new table, a short one with a spoilt entry, and a full one with two.
     */
    private static void corners() throws Exception {
        int[] corners = {Integer.MIN_VALUE, -1, 0, 1, 2, 3, 38, 39, 199, Integer.MAX_VALUE};
        String[] states = {"", "lay 4 1,spoil 3 1,residue 4 199", "lay 38 2,spoil 2 1,spoil 38 -9,residue 0 3"};
        for (String each : CALLS) {
            String[] call = each.split(" ");
            Object[] values = new Object[call.length - 2];
            int all = (int) Math.pow(corners.length, values.length);
            for (String state : states) {
                BernoulliWays real = null;
                Model model = null;
                for (int i = 0; i < all; i++) {
                    if (i % 500 == 0) {
                        real = new BernoulliWays();
                        model = new Model();
                        prepare(state, real, model);
                    }
                    for (int k = 0, left = i; k < values.length; k++, left /= corners.length) {
                        values[k] = corners[left % corners.length];
                    }
                    due(call[1] + List.of(values) + " of " + state, answer(real, call[1], values),
                        answer(model, call[1], values));
                }
            }
        }
    }

    private static void prepare(String state, BernoulliWays real, Model model) throws Exception {
        for (String step : state.split(",")) {
            String[] words = step.split(" ");
            if (words.length > 1) {
                answer(real, words[0], valuesOf(words));
                answer(model, words[0], valuesOf(words));
            }
        }
    }

    private static Object[] valuesOf(String[] words) {
        Object[] values = new Object[words.length - 1];
        for (int k = 0; k < values.length; k++) {
            values[k] = Integer.valueOf(words[k + 1]);
        }
        return values;
    }

    /** One entry spoilt by nearly all calls that an object is for, as far as it goes. */
    private static void toTheLastCall(int n, int d) throws Exception {
        BernoulliWays real = new BernoulliWays();
        Model model = new Model();
        real.lay(38, 1);
        model.lay(38, 1);
        for (int i = 0; i < 485; i++) {
            real.spoil(n, d);
            model.spoilOne(n, d);
        }
        String spoilt = " of " + n + " spoilt by " + d + " 485 times";
        String[] calls = {
            "number " + n + " 0", "number " + n + " 1", "number " + n + " 2", "tests " + n, "tests 38",
            "suspects 63", "remainder 38 0", "remainder 38 1", "remainder 38 2", "poly 38 " + (38 - n) + " 0",
            "zeta " + (n - 1) + " 0", "zeta " + (n - 1) + " 1", "often " + n + " 3", "residue " + n + " 199",
            "coefficient 24 " + (25 - n) + " 0", "sum 24 999999999", "triangular 15 8 0", "value 10 9 6 1",
            "at 38 198 199", "genocchi " + n, "tangent " + n, "growth " + n, "growth " + (n + 2),
            "kummerTwice 5 " + n + " 18", "progression 24 1000 1000 999999999", "culprit 63"
        };
        for (String call : calls) {
            String[] words = call.split(" ");
            Object[] values = valuesOf(words);
            due(call + spoilt, answer(real, words[0], values), answer(model, words[0], values));
        }
    }

    private static int[] choicesOf(String kind) {
        if (kind.equals("primes")) {
            return Model.PRIMES.stream().mapToInt(Integer::intValue).toArray();
        }
        if (kind.equals("smallPrimes")) {
            return new int[] {1, 2, 3, 4, 5, 7, 11, 13, 19, 37, 199};
        }
        String[] ends = kind.split("\\.\\.");
        int from = Integer.parseInt(ends[0]);
        int[] all = new int[Integer.parseInt(ends[1]) - from + 1];
        for (int i = 0; i < all.length; i++) {
            all[i] = from + i;
        }
        return all;
    }

    private static final String[] SWEEPS = {
        "number -1..39 0..3", "prime -1..39 -1..8", "whole -1..40", "byPowers -1..39 primes",
        "residue -1..39 primes", "often -1..39 primes", "kummer smallPrimes -1..39 -1..39",
        "kummerTwice smallPrimes -1..39 -1..39", "tests -1..39", "agree -1..39", "remainder 0..39 -1..3",
        "triangleAt -1..39 -1..39 0..2", "whichBelow 0..3000", "irregular 0..212", "pair -1..10 -1..2",
        "second -1..10", "far 0..420 smallPrimes", "voronoi 1..39 0..20 smallPrimes",
        "byWay primes 0..2 0..198", "nothings primes -1..3", "harmonic 0..212", "wilson 0..212",
        "classNumber 0..212", "quadratic primes 0..5 0..2", "regulars 2..200",
        "coefficient -1..25 -1..27 0..1", "sum -1..25 0..9", "digits -1..25 0..40",
        "digit 0..24 998..1001 -1..76", "triangular -1..17 -1..10 0..1", "poly -1..39 -1..39 0..2",
        "value -1..11 -10..10 0..7 0..2", "at 0..39 0..12 smallPrimes", "roots -1..39 smallPrimes",
        "zeta -1..38 -1..3", "genocchi -1..21", "onto -1..31 -1..31", "byBoxes -1..21 -1..3",
        "zigzag -1..24", "tangent -1..24", "growth -1..40", "count -1..4"
    };

    private static int draw(Random chance) {
        int all = 0;
        for (String call : CALLS) {
            all += Integer.parseInt(call.split(" ")[0]);
        }
        int left = chance.nextInt(all);
        for (int i = 0; i < CALLS.length; i++) {
            left -= Integer.parseInt(CALLS[i].split(" ")[0]);
            if (left < 0) {
                return i;
            }
        }
        return 0;
    }

    private static Object argument(String kind, Random chance, int laid, int loved) {
        if (chance.nextInt(60) == 0) {
            int[] odd = {-1, 0, 1, 2, 4, 39, 64, 200, 211, Integer.MIN_VALUE, Integer.MAX_VALUE, -2, 25, 9};
            return odd[chance.nextInt(odd.length)];
        }
        switch (kind) {
            case "entry":
                return chance.nextInt(20) == 0 || laid == 0 ? chance.nextInt(39) : chance.nextInt(laid);
            case "loved":
                return Math.min(loved, Math.max(laid - 1, 0));
            case "some":
                return chance.nextBoolean() ? 63 : chance.nextInt(64);
            case "seed":
                return chance.nextInt() & Integer.MAX_VALUE;
            case "prime":
                return Model.PRIMES.get(1 + chance.nextInt(45));
            case "smallPrime":
                return Model.PRIMES.get(1 + chance.nextInt(12));
            case "tinyPrime":
                return Model.PRIMES.get(1 + chance.nextInt(3));
            default:
                String[] ends = kind.split("\\.\\.");
                int from = Integer.parseInt(ends[0]);
                int to = Integer.parseInt(ends[1]);
                if (to > 1000 && chance.nextInt(4) == 0) {
                    to = from + 30;
                }
                return from + chance.nextInt(to - from + 1);
        }
    }

    private static final Map<String, Method> METHODS = new HashMap<>();

    private static String answer(Object on, String name, Object[] values) throws Exception {
        String key = on.getClass().getName() + "." + name;
        Method method = METHODS.get(key);
        if (method == null) {
            for (Method each : on.getClass().getDeclaredMethods()) {
                if (each.getName().equals(name) && each.getParameterCount() == values.length) {
                    method = each;
                }
            }
            METHODS.put(key, method);
        }
        try {
            return String.valueOf(((Number) method.invoke(on, values)).longValue());
        } catch (InvocationTargetException thrown) {
            return "throws." + thrown.getCause().getClass().getSimpleName();
        }
    }

    /** Sums of powers as they are told first: one power after another. */
    private static void sumsByHand() {
        BernoulliWays real = new BernoulliWays();
        real.lay(24, 1);
        for (int m = 0; m <= 24; m += 3) {
            BigInteger all = BigInteger.ZERO;
            for (int n = 1; n <= 12; n++) {
                all = all.add(BigInteger.valueOf(n).pow(m));
                String digits = all.toString();
                due("digits(" + m + ", " + n + ")", real.digits(m, n), digits.length());
                for (int i = 0; i < digits.length(); i++) {
                    due("digit(" + m + ", " + n + ", " + i + ")", real.digit(m, n, i), digits.charAt(i) - '0');
                }
                if (n < 5) {
                    int rest = all.mod(BigInteger.valueOf(1000000007)).intValue();
                    due("sum(" + m + ", " + n + ")", real.sum(m, n), rest);
                    due("progression(" + m + ", 1, 1, " + n + ")", real.progression(m, 1, 1, n), rest);
                }
            }
            real = new BernoulliWays();
            real.lay(24, 1);
        }
    }

    private static void due(String call, Object got, Object want) {
        compared++;
        if (!got.equals(want)) {
            wrong++;
            System.out.println(call + " answered " + got + ", due is " + want);
        }
    }

    /** An exact fraction. */
    private static final class Q {
        static final Q ZERO = of(0);
        static final Q ONE = of(1);
        final BigInteger above;
        final BigInteger below;

        Q(BigInteger above, BigInteger below) {
            BigInteger common = above.gcd(below);
            if (below.signum() < 0) {
                common = common.negate();
            }
            this.above = above.divide(common);
            this.below = below.divide(common);
        }

        static Q of(long n) {
            return new Q(BigInteger.valueOf(n), BigInteger.ONE);
        }

        static Q of(long a, long b) {
            return new Q(BigInteger.valueOf(a), BigInteger.valueOf(b));
        }

        static Q of(BigInteger n) {
            return new Q(n, BigInteger.ONE);
        }

        Q plus(Q o) {
            return new Q(above.multiply(o.below).add(o.above.multiply(below)), below.multiply(o.below));
        }

        Q minus(Q o) {
            return plus(o.times(of(-1)));
        }

        Q times(Q o) {
            return new Q(above.multiply(o.above), below.multiply(o.below));
        }

        Q by(Q o) {
            return new Q(above.multiply(o.below), below.multiply(o.above));
        }

        Q power(int n) {
            return new Q(above.pow(n), below.pow(n));
        }

        boolean is(Q o) {
            return above.equals(o.above) && below.equals(o.below);
        }

        boolean isZero() {
            return above.signum() == 0;
        }

        BigInteger whole() {
            BigInteger[] parts = above.divideAndRemainder(below);
            return parts[1].signum() < 0 ? parts[0].subtract(BigInteger.ONE) : parts[0];
        }

        long part(int what) {
            if (what == 0) {
                return whole().longValueExact();
            }
            return what == 1 ? above.mod(below).longValueExact() : below.longValueExact();
        }

        boolean dividesBelow(long p) {
            return below.mod(BigInteger.valueOf(p)).signum() == 0;
        }

        long modulo(long m) {
            BigInteger by = BigInteger.valueOf(m);
            return above.multiply(below.modInverse(by)).mod(by).longValueExact();
        }
    }

    /** What the document says, told once more. */
    private static final class Model {
        static final List<Integer> PRIMES = new ArrayList<>();
        static final List<Q> RIGHT = new ArrayList<>();
        static final List<int[]> PAIRS = new ArrayList<>();
        static final long NO = Long.MIN_VALUE;
        static final int FAR_END = 198;
        static final Map<Integer, BigInteger[]> CHOSEN = new HashMap<>();

        static {
            for (int p = 2; p <= 199; p++) {
                if (BigInteger.valueOf(p).isProbablePrime(50)) {
                    PRIMES.add(p);
                }
            }
            for (int n = 0; n <= FAR_END; n++) {
                Q all = Q.ZERO;
                for (int k = 0; k < n; k++) {
                    all = all.plus(Q.of(choose(n + 1, k)).times(RIGHT.get(k)));
                }
                RIGHT.add(n == 0 ? Q.ONE : all.by(Q.of(-n - 1)));
            }
            for (int p : PRIMES) {
                for (int k = 2; k <= p - 3; k += 2) {
                    if (RIGHT.get(k).above.mod(BigInteger.valueOf(p)).signum() == 0) {
                        PAIRS.add(new int[] {p, k});
                    }
                }
            }
        }

        List<Q> table = new ArrayList<>();
        List<Integer> waysOf = new ArrayList<>();
        List<int[]> remembered = new ArrayList<>();

        static BigInteger choose(int n, int k) {
            if (k < 0 || k > n) {
                return BigInteger.ZERO;
            }
            BigInteger[] row = CHOSEN.get(n);
            if (row == null) {
                row = new BigInteger[n + 1];
                row[0] = BigInteger.ONE;
                for (int i = 1; i <= n; i++) {
                    row[i] = row[i - 1].multiply(BigInteger.valueOf(n + 1 - i)).divide(BigInteger.valueOf(i));
                }
                CHOSEN.put(n, row);
            }
            return row[k];
        }

        static boolean in(int x, int from, int to) {
            return from <= x && x <= to;
        }

        static boolean isPrime(int p) {
            return in(p, 3, 199) && PRIMES.contains(p);
        }

        boolean laid(int n) {
            return n < table.size();
        }

        boolean allRight(int below) {
            for (int k = 0; k < below; k++) {
                if (!table.get(k).is(RIGHT.get(k))) {
                    return false;
                }
            }
            return true;
        }

        int lay(int n, int way) {
            if (!in(n, 0, 38) || !in(way, 0, 2)) {
                return -1;
            }
            if (way == 0 && !allRight(table.size())) {
                return -3;
            }
            int many = 0;
            while (table.size() <= n) {
                table.add(RIGHT.get(table.size()));
                waysOf.add(way);
                many++;
            }
            return many;
        }

        int relay(int n, int way) {
            if (!in(n, 0, 38) || !in(way, 0, 2)) {
                return -1;
            }
            if (!laid(n)) {
                return -2;
            }
            if (way == 0 && !allRight(n)) {
                return -3;
            }
            waysOf.set(n, way);
            return table.set(n, RIGHT.get(n)).is(RIGHT.get(n)) ? 0 : 1;
        }

        void spoilOne(int n, int d) {
            Q old = table.get(n);
            table.set(n, old.plus(new Q(BigInteger.valueOf(d), old.below)));
        }

        int spoil(int n, int d) {
            if (!in(n, 0, 38) || !in(d, -9, 9) || d == 0) {
                return -1;
            }
            if (!laid(n)) {
                return -2;
            }
            spoilOne(n, d);
            waysOf.set(n, 3);
            return failed(n);
        }

        int heal(int some) {
            if (!in(some, 0, 63)) {
                return -1;
            }
            List<Integer> failing = new ArrayList<>();
            for (int n = 0; n < table.size(); n++) {
                if ((failed(n) & some) != 0) {
                    failing.add(n);
                }
            }
            int many = 0;
            for (int n : failing) {
                many += relay(n, 1);
            }
            return many;
        }

        long number(int n, int what) {
            if (!in(what, 0, 2)) {
                throw new NoSuchElementException();
            }
            return in(n, 0, 38) && laid(n) ? table.get(n).part(what) : NO;
        }

        int way(int n) {
            return !in(n, 0, 38) ? -1 : !laid(n) ? -2 : waysOf.get(n);
        }

        int right(int n) {
            return !in(n, 0, 38) ? -1 : !laid(n) ? -2 : table.get(n).is(RIGHT.get(n)) ? 1 : 0;
        }

        int agree(int n) {
            if (right(n) < 1) {
                return right(n);
            }
            return allRight(n) ? 3 : 2;
        }

        int prime(int n, int k) {
            if (!in(n, 0, 38) || k < 0) {
                return -1;
            }
            List<Integer> found = new ArrayList<>();
            for (int p : PRIMES) {
                if (RIGHT.get(n).dividesBelow(p)) {
                    found.add(p);
                }
            }
            return k < found.size() ? found.get(k) : -2;
        }

        long whole(int n) {
            if (!in(n, 2, 38) || n % 2 != 0) {
                return NO;
            }
            Q all = RIGHT.get(n);
            for (int p : PRIMES) {
                if (RIGHT.get(n).dividesBelow(p)) {
                    all = all.plus(Q.of(1, p));
                }
            }
            if (!all.below.equals(BigInteger.ONE)) {
                throw new IllegalStateException("no whole number");
            }
            return all.part(0);
        }

        int residueNow(int n, int p) {
            return table.get(n).dividesBelow(p) ? -3 : (int) table.get(n).modulo(p);
        }

        int residue(int n, int p) {
            if (!in(n, 0, 38) || !isPrime(p)) {
                return -1;
            }
            if (!laid(n)) {
                return -2;
            }
            int answer = residueNow(n, p);
            if (answer < 0) {
                return answer;
            }
            for (int[] each : remembered) {
                if (each[0] == n && each[1] == p) {
                    each[2] = answer;
                    return answer;
                }
            }
            remembered.add(new int[] {n, p, answer});
            if (remembered.size() > 20) {
                remembered.remove(0);
            }
            return answer;
        }

        int byPowers(int n, int p) {
            if (!in(n, 0, 38) || !isPrime(p)) {
                return -1;
            }
            return n % 2 != 0 || n < 2 || n % (p - 1) == 0 ? -3 : (int) RIGHT.get(n).modulo(p);
        }

        int memo(int k, int what) {
            if (k < 0 || !in(what, 0, 3)) {
                return -1;
            }
            if (k >= remembered.size()) {
                return -2;
            }
            int[] each = remembered.get(k);
            return what < 3 ? each[what] : residueNow(each[0], each[1]) == each[2] ? 1 : 0;
        }

        static int oftenIn(BigInteger n, int p) {
            int many = 0;
            BigInteger left = n;
            while (left.mod(BigInteger.valueOf(p)).signum() == 0) {
                left = left.divide(BigInteger.valueOf(p));
                many++;
            }
            return many;
        }

        int often(int n, int p) {
            if (!in(n, 0, 38) || !isPrime(p) || !laid(n)) {
                return -100;
            }
            Q entry = table.get(n);
            return entry.isZero() ? 100 : oftenIn(entry.above, p) - oftenIn(entry.below, p);
        }

        boolean kummerIsTold(int p, int m, int n, int alike) {
            return m >= 2 && n >= 2 && m % 2 == 0 && n % 2 == 0 && Math.floorMod(m - n, alike) == 0
                && m % (p - 1) != 0 && n % (p - 1) != 0 && m % p != 0 && n % p != 0
                && !table.get(m).dividesBelow(p) && !table.get(n).dividesBelow(p);
        }

        int kummer(int p, int m, int n) {
            if (!isPrime(p) || !in(m, 0, 38) || !in(n, 0, 38)) {
                return -1;
            }
            if (!laid(m) || !laid(n)) {
                return -2;
            }
            if (!kummerIsTold(p, m, n, p - 1)) {
                return -3;
            }
            return (int) table.get(m).by(Q.of(m)).minus(table.get(n).by(Q.of(n))).modulo(p);
        }

        int kummerTwice(int p, int m, int n) {
            if (!isPrime(p) || !in(m, 0, 38) || !in(n, 0, 38)) {
                return -1;
            }
            if (!laid(m) || !laid(n)) {
                return -2;
            }
            if (!kummerIsTold(p, m, n, p * (p - 1))) {
                return -3;
            }
            Q one = Q.ONE.minus(Q.of(p).power(m - 1)).times(table.get(m)).by(Q.of(m));
            Q other = Q.ONE.minus(Q.of(p).power(n - 1)).times(table.get(n)).by(Q.of(n));
            return (int) one.minus(other).modulo((long) p * p);
        }

        Q remains(int n) {
            Q all = Q.ZERO;
            for (int k = 0; k <= n; k++) {
                all = all.plus(Q.of(choose(n + 1, k)).times(table.get(k)));
            }
            return all;
        }

        int failed(int n) {
            Q entry = table.get(n);
            int bits = 0;
            long due = 1;
            for (int p : PRIMES) {
                if (n == 1 ? p == 2 : n >= 2 && n % 2 == 0 && n % (p - 1) == 0) {
                    due *= p;
                }
            }
            if (!entry.below.equals(BigInteger.valueOf(due))) {
                bits |= 1;
            }
            int sign = n == 0 ? 1 : n == 1 ? -1 : n % 2 == 1 ? 0 : n % 4 == 2 ? 1 : -1;
            if (entry.above.signum() != sign) {
                bits |= 2;
            }
            if (n >= 1 && !remains(n).isZero()) {
                bits |= 4;
            }
            for (int p : PRIMES) {
                for (int m = 2; p >= 5 && p <= 37 && m < n; m++) {
                    if (kummer(p, m, n) > 0) {
                        bits |= 8;
                    }
                }
                if (n >= 2 && n % 2 == 0 && p >= 5 && n % p == 0 && n % (p - 1) != 0
                        && (entry.dividesBelow(p) || entry.modulo(p) != 0)) {
                    bits |= 16;
                }
            }
            if (n % 2 == 0) {
                Q all = Q.ZERO;
                for (int j = 0; n - 6 * j >= 0; j++) {
                    all = all.plus(Q.of(choose(n + 3, n - 6 * j)).times(table.get(n - 6 * j)));
                }
                if (!all.is(n % 6 == 4 ? Q.of(-n - 3, 6) : Q.of(n + 3, 3))) {
                    bits |= 32;
                }
            }
            return bits;
        }

        int tests(int n) {
            return !in(n, 0, 38) ? -1 : !laid(n) ? -2 : failed(n);
        }

        long suspects(int some) {
            if (!in(some, 0, 63)) {
                return NO;
            }
            long bits = 0;
            for (int n = 0; n < table.size(); n++) {
                bits |= (failed(n) & some) != 0 ? 1L << n : 0;
            }
            return bits;
        }

        int broken(int what) {
            if (!in(what, 0, 1)) {
                return -1;
            }
            long bits = suspects(4);
            if (what == 1) {
                return Long.bitCount(bits);
            }
            return bits == 0 ? -2 : Long.numberOfTrailingZeros(bits);
        }

        int culprit(int some) {
            if (!in(some, 0, 63)) {
                return -1;
            }
            for (int n = 0; n < table.size(); n++) {
                Q old = table.set(n, RIGHT.get(n));
                boolean passes = true;
                for (int k = 0; passes && k < table.size(); k++) {
                    passes = (failed(k) & some) == 0;
                }
                table.set(n, old);
                if (passes) {
                    return n;
                }
            }
            return -2;
        }

        int trial(int seed, int n, int some) {
            if (seed < 0 || !in(n, 1, 20) || !in(some, 0, 63)) {
                return -1;
            }
            if (table.isEmpty()) {
                return -2;
            }
            List<Q> old = new ArrayList<>(table);
            int[] state = {seed};
            for (int i = 0; i < n; i++) {
                int entry = drawn(state, table.size());
                int d = drawn(state, 9) + 1;
                spoilOne(entry, drawn(state, 2) == 1 ? -d : d);
            }
            int many = 0;
            for (int k = 0; k < table.size(); k++) {
                if (!table.get(k).is(RIGHT.get(k)) && (failed(k) & some) != 0) {
                    many++;
                }
            }
            table = old;
            return many;
        }

        static int drawn(int[] state, int modulo) {
            BigInteger next = BigInteger.valueOf(state[0]).multiply(BigInteger.valueOf(1103515245))
                .add(BigInteger.valueOf(12345)).mod(BigInteger.ONE.shiftLeft(31));
            state[0] = next.intValueExact();
            return state[0] / 65536 % modulo;
        }

        long remainder(int n, int what) {
            return in(n, 1, 38) && in(what, 0, 2) && laid(n) ? remains(n).part(what) : NO;
        }

        long triangleAt(int n, int j, int what) {
            if (!in(n, 0, 38) || !in(j, 0, 38) || n + j > 38 || !in(what, 0, 2)) {
                return NO;
            }
            List<Q> row = new ArrayList<>();
            for (int i = 0; i <= 38; i++) {
                row.add(Q.of(1, i + 1));
            }
            for (int r = 0; r < n; r++) {
                List<Q> next = new ArrayList<>();
                for (int i = 0; i + 1 < row.size(); i++) {
                    next.add(row.get(i).minus(row.get(i + 1)).times(Q.of(i + 1)));
                }
                row = next;
            }
            return row.get(j).part(what);
        }

        int whichBelow(int d) {
            if (d < 1) {
                return -1;
            }
            for (int n = 2; n <= 38; n += 2) {
                if (RIGHT.get(n).below.equals(BigInteger.valueOf(d))) {
                    return n;
                }
            }
            return -2;
        }

        int irregular(int p) {
            if (!isPrime(p)) {
                return -1;
            }
            int many = 0;
            for (int[] each : PAIRS) {
                many += each[0] == p ? 1 : 0;
            }
            return many;
        }

        int pair(int k, int what) {
            if (k < 0 || !in(what, 0, 1)) {
                return -1;
            }
            return k < PAIRS.size() ? PAIRS.get(k)[what] : -2;
        }

        /** By power sums modulo p to the power 4, of each number by itself. */
        int second(int k) {
            if (k < 0) {
                return -1;
            }
            if (k >= PAIRS.size()) {
                return -2;
            }
            int p = PAIRS.get(k)[0];
            BigInteger prime = BigInteger.valueOf(p);
            for (int t = 0; t < p; t++) {
                int n = PAIRS.get(k)[1] + t * (p - 1);
                BigInteger all = BigInteger.ZERO;
                for (int a = 1; a < p; a++) {
                    all = all.add(BigInteger.valueOf(a).modPow(BigInteger.valueOf(n), prime.pow(4)));
                }
                int needed = n % p == 0 ? 4 : 3;
                if (all.mod(prime.pow(needed)).signum() == 0) {
                    return n;
                }
            }
            return -3;
        }

        /** By Kummer's congruence from an exact entry below p - 1. */
        int far(int n, int p) {
            if (!in(n, 2, 1000000) || n % 2 != 0 || !isPrime(p)) {
                return -1;
            }
            int near = n % (p - 1);
            return near == 0 ? -3 : (int) RIGHT.get(near).times(Q.of(n)).by(Q.of(near)).modulo(p);
        }

        int voronoi(int n, int a, int p) {
            if (!in(n, 2, 38) || n % 2 != 0 || !isPrime(p) || !in(a, 1, p - 1)) {
                return -1;
            }
            BigInteger all = BigInteger.ZERO;
            for (int j = 1; j < p; j++) {
                all = all.add(BigInteger.valueOf(j).pow(n - 1).multiply(BigInteger.valueOf(j * a / p)));
            }
            all = all.multiply(BigInteger.valueOf(a).pow(n - 1)).multiply(BigInteger.valueOf(n));
            return all.mod(BigInteger.valueOf(p)).intValueExact();
        }

        int byWay(int p, int way, int n) {
            if (!isPrime(p) || !in(way, 0, 2) || !in(n, 0, p - 2)) {
                return -1;
            }
            return (int) RIGHT.get(n).modulo(p);
        }

        int nothings(int p, int way) {
            return in(way, 0, 2) ? irregular(p) : -1;
        }

        int harmonic(int p) {
            if (!isPrime(p) || p < 5) {
                return -1;
            }
            Q all = Q.ZERO;
            for (int a = 1; a < p; a++) {
                all = all.plus(Q.of(1, a));
            }
            return (int) (all.modulo((long) p * p * p) / (p * p));
        }

        int wilson(int p) {
            if (!isPrime(p)) {
                return -1;
            }
            BigInteger product = BigInteger.ONE;
            for (int a = 1; a < p; a++) {
                product = product.multiply(BigInteger.valueOf(a));
            }
            BigInteger prime = BigInteger.valueOf(p);
            return product.add(BigInteger.ONE).divide(prime).mod(prime).intValueExact();
        }

        static int signOf(int a, int p) {
            Set<Integer> squares = new TreeSet<>();
            for (int b = 1; b < p; b++) {
                squares.add(b * b % p);
            }
            return a % p == 0 ? 0 : squares.contains(a % p) ? 1 : -1;
        }

        int classNumber(int p) {
            if (!isPrime(p) || p < 7 || p % 4 != 3) {
                return -1;
            }
            int less = 0;
            int more = 0;
            for (int a = 1; a < p; a++) {
                less += signOf(a, p) < 0 ? a : 0;
                more += signOf(a, p) > 0 ? a : 0;
            }
            return (less - more) / p;
        }

        static Q polynomial(List<Q> entries, int n, Q x) {
            Q all = Q.ZERO;
            for (int k = 0; k <= n; k++) {
                all = all.plus(Q.of(choose(n, k)).times(entries.get(n - k)).times(x.power(k)));
            }
            return all;
        }

        long quadratic(int p, int n, int what) {
            if (!isPrime(p) || !in(n, 1, 4) || !in(what, 0, 2)) {
                return NO;
            }
            Q all = Q.ZERO;
            for (int a = 1; a <= p; a++) {
                all = all.plus(Q.of(signOf(a, p)).times(polynomial(RIGHT, n, Q.of(a, p))));
            }
            return all.times(Q.of(p).power(n - 1)).part(what);
        }

        int regulars(int n) {
            if (!in(n, 3, 199)) {
                return -1;
            }
            int many = 0;
            for (int p = 3; p <= n; p++) {
                many += irregular(p) == 0 ? 1 : 0;
            }
            return many;
        }

        static Q coefficientOf(List<Q> entries, int m, int j) {
            if (j == 0) {
                return Q.ZERO;
            }
            int k = m + 1 - j;
            Q entry = k == 1 ? entries.get(1).plus(Q.ONE) : entries.get(k);
            return Q.of(choose(m + 1, j)).times(entry).by(Q.of(m + 1));
        }

        static Q sumOf(List<Q> entries, int m, int n) {
            Q all = Q.ZERO;
            for (int j = 1; j <= m + 1; j++) {
                all = all.plus(coefficientOf(entries, m, j).times(Q.of(n).power(j)));
            }
            return all;
        }

        long coefficient(int m, int j, int what) {
            if (!in(m, 0, 24) || !in(j, 0, m + 1) || !in(what, 0, 1)) {
                return NO;
            }
            if (!laid(m)) {
                return -2;
            }
            Q found = coefficientOf(table, m, j);
            return (what == 0 ? found.above : found.below).longValueExact();
        }

        int sum(int m, int n) {
            if (!in(m, 0, 24) || !in(n, 0, 1000000000)) {
                return -1;
            }
            return laid(m) ? (int) sumOf(table, m, n).modulo(1000000007) : -2;
        }

        int digits(int m, int n) {
            if (!in(m, 0, 24) || !in(n, 0, 1000000000)) {
                return -1;
            }
            return sumOf(RIGHT, m, n).above.toString().length();
        }

        int digit(int m, int n, int i) {
            if (digits(m, n) < 0 || i < 0) {
                return -1;
            }
            String all = sumOf(RIGHT, m, n).above.toString();
            return i < all.length() ? all.charAt(i) - '0' : -2;
        }

        int progression(int m, int a, int d, int n) {
            if (!in(m, 0, 24) || !in(a, 0, 1000) || !in(d, 1, 1000) || !in(n, 0, 1000000000)) {
                return -1;
            }
            if (!laid(m)) {
                return -2;
            }
            if (n == 0) {
                return 0;
            }
            Q all = Q.of(a).power(m).times(Q.of(n));
            for (int j = 1; j <= m; j++) {
                Q factor = Q.of(choose(m, j)).times(Q.of(a).power(m - j)).times(Q.of(d).power(j));
                all = all.plus(factor.times(sumOf(table, j, n - 1)));
            }
            return (int) all.modulo(1000000007);
        }

        /** From below: t to the power j begins with N to the power j by 2 to the power j. */
        long triangular(int m, int j, int what) {
            if (!in(m, 1, 15) || m % 2 == 0 || !in(j, 1, (m + 1) / 2) || !in(what, 0, 1)) {
                return NO;
            }
            if (!laid(m)) {
                return -2;
            }
            Q[] left = new Q[m + 2];
            for (int i = 0; i <= m + 1; i++) {
                left[i] = coefficientOf(table, m, i);
            }
            Q answer = Q.ZERO;
            for (int h = 1; h <= (m + 1) / 2; h++) {
                Q taken = left[h];
                for (int i = 0; i <= h; i++) {
                    left[h + i] = left[h + i].minus(taken.times(Q.of(choose(h, i))));
                }
                if (h == j) {
                    answer = taken.times(Q.of(2).power(h));
                }
            }
            for (Q each : left) {
                if (!each.isZero()) {
                    return -3;
                }
            }
            return (what == 0 ? answer.above : answer.below).longValueExact();
        }

        long poly(int n, int k, int what) {
            if (!in(n, 0, 38) || !in(k, 0, n) || !in(what, 0, 2) || !laid(n - k)) {
                return NO;
            }
            return Q.of(choose(n, k)).times(table.get(n - k)).part(what);
        }

        long value(int n, int a, int b, int what) {
            if (!in(n, 0, 10) || !in(a, -9, 9) || !in(b, 1, 6) || !in(what, 0, 2) || !laid(n)) {
                return NO;
            }
            return polynomial(table, n, Q.of(a, b)).part(what);
        }

        int at(int n, int x, int p) {
            if (!in(n, 0, 38) || !isPrime(p) || !in(x, 0, p - 1)) {
                return -1;
            }
            if (!laid(n)) {
                return -2;
            }
            for (int k = 0; k <= n; k++) {
                if (table.get(k).dividesBelow(p)) {
                    return -3;
                }
            }
            return (int) polynomial(table, n, Q.of(x)).modulo(p);
        }

        int roots(int n, int p) {
            int first = at(n, 0, p);
            if (first < 0) {
                return first;
            }
            int many = 0;
            for (int x = 0; x < p; x++) {
                many += at(n, x, p) == 0 ? 1 : 0;
            }
            return many;
        }

        long zeta(int n, int what) {
            if (!in(n, 0, 37) || !in(what, 0, 2) || !laid(n + 1)) {
                return NO;
            }
            return n == 0 ? table.get(1).part(what) : table.get(n + 1).by(Q.of(-n - 1)).part(what);
        }

        long genocchi(int n) {
            if (!in(n, 0, 20) || !laid(n)) {
                return NO;
            }
            Q found = Q.of(2 * (1 - (1L << n))).times(table.get(n));
            return found.part(1) == 0 ? found.part(0) : NO;
        }

        /** By taking away those that leave boxes empty. */
        static BigInteger ontoOf(int n, int k) {
            BigInteger all = BigInteger.ZERO;
            for (int i = 0; i <= k; i++) {
                BigInteger each = choose(k, i).multiply(BigInteger.valueOf(k - i).pow(n));
                all = i % 2 == 0 ? all.add(each) : all.subtract(each);
            }
            return all;
        }

        long onto(int n, int k) {
            if (!in(n, 0, 30) || !in(k, 0, 30)) {
                return NO;
            }
            return ontoOf(n, k).bitLength() > 63 ? NO : ontoOf(n, k).longValueExact();
        }

        long byBoxes(int n, int what) {
            if (!in(n, 0, 20) || !in(what, 0, 2)) {
                return NO;
            }
            Q all = Q.ZERO;
            for (int k = 0; k <= n; k++) {
                if (onto(n, k) == NO) {
                    return NO;
                }
                all = all.plus(Q.of(ontoOf(n, k)).by(Q.of(k % 2 == 0 ? k + 1 : -k - 1)));
            }
            return all.part(what);
        }

        /** By the sum over pairs of shorter ones. */
        long zigzag(int n) {
            if (!in(n, 0, 23)) {
                return NO;
            }
            List<BigInteger> all = new ArrayList<>(List.of(BigInteger.ONE, BigInteger.ONE));
            for (int i = 1; i < n; i++) {
                BigInteger next = BigInteger.ZERO;
                for (int k = 0; k <= i; k++) {
                    next = next.add(choose(i, k).multiply(all.get(k)).multiply(all.get(i - k)));
                }
                all.add(next.shiftRight(1));
            }
            return all.get(n).longValueExact();
        }

        long tangent(int n) {
            if (!in(n, 2, 22) || n % 2 != 0 || !laid(n)) {
                return NO;
            }
            Q entry = table.get(n);
            Q found = Q.of((1L << n) * ((1L << n) - 1)).times(new Q(entry.above.abs(), entry.below)).by(Q.of(n));
            return found.part(1) == 0 ? found.part(0) : NO;
        }

        int growth(int n) {
            if (!in(n, 4, 38) || n % 2 != 0) {
                return -1;
            }
            if (!laid(n)) {
                return -2;
            }
            BigInteger ahead = table.get(n - 2).whole().abs();
            return ahead.signum() == 0 ? 0 : table.get(n).whole().abs().divide(ahead).intValueExact();
        }

        int count(int what) {
            int many = 0;
            switch (what) {
                case 0:
                    return table.size() - 1;
                case 1:
                    for (int n = 0; n < table.size(); n++) {
                        many += 1 - right(n);
                    }
                    return many;
                case 2:
                    return remembered.size();
                case 3:
                    for (int k = 0; k < remembered.size(); k++) {
                        many += 1 - memo(k, 3);
                    }
                    return many;
                default:
                    return -1;
            }
        }
    }
}
