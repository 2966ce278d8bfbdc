import java.lang.reflect.InvocationTargetException;
import java.lang.reflect.Method;
import java.util.ArrayList;
import java.util.Arrays;
import java.util.HashMap;
import java.util.List;
import java.util.Map;
import java.util.Set;

/**
 * Runs of calls at the edges that the document names: of each range the last number inside and the
 * first outside, answers that refuse and which of them goes first, a fresh object, a full table, a
 * full MEMO. Each run begins with "#", its promise and what it is about; each step is a call with
 * the answer that is due. Behind each step the whole state is looked at, too: a call that is refused
 * or only asks leaves all as it was, the others change no more than the document says.
 */
public final class EdgeTests {
    private static final int LAST = 38;
    private static final int PLACES = 20;
    private static final int MOST_CALLS = 512;
    private static final Set<String> CHANGING = Set.of("lay", "relay", "spoil", "heal", "residue");
    private static final Map<String, Method> METHODS = new HashMap<>();

    private static int wrong = 0;
    private static int asked = 0;
    private static String about = "";

    private record Step(String call, String name, Object[] values, String due) {
    }

    /** All that can be told of an object's state: its entries with their ways, its MEMO, counts. */
    private record State(List<String> entries, List<String> places, List<String> counts) {
    }

    public static void main(String[] args) throws Exception {
        for (Method each : BernoulliWays.class.getDeclaredMethods()) {
            METHODS.put(each.getName() + "/" + each.getParameterCount(), each);
        }
        for (String block : RUNS) {
            for (String run : block.split("#")) {
                if (!run.isBlank()) {
                    check(run);
                }
            }
        }
        about = "1: two objects";
        twoObjects();
        about = "12 on: what is one of the PRIMES";
        for (int p = -200; p <= 420; p++) {
            primesAlone(p);
        }
        System.out.println(asked + " answers and states looked at, " + wrong + " wrong");
        if (wrong != 0) {
            System.exit(1);
        }
    }

    private static void tell(String what) {
        wrong++;
        System.out.println("promise " + about + ": " + what);
    }

    // ---- a run -----------------------------------------------------------------------------

    private static void check(String run) throws Exception {
        int end = run.indexOf('\n');
        about = run.substring(0, end).trim();
        List<Step> steps = stepsOf(run.substring(end));
        BernoulliWays x = new BernoulliWays();
        State ahead = stateOf(x);
        x = new BernoulliWays();
        for (int i = 0; i < steps.size(); i++) {
            Step step = steps.get(i);
            String got = answer(x, step.name(), step.values());
            asked++;
            if (!got.equals(step.due())) {
                tell("step " + i + ", " + step.call() + " answered " + got + ", due is " + step.due());
            }
            State then = stateAfter(steps, i);
            asked++;
            compare(step, got, ahead, then);
            ahead = then;
        }
    }

    private static List<Step> stepsOf(String text) {
        List<Step> steps = new ArrayList<>();
        for (String part : text.split("[;\n]")) {
            if (part.isBlank()) {
                continue;
            }
            String[] sides = part.trim().split(" = ");
            int open = sides[0].indexOf('(');
            String[] words = sides[0].substring(open + 1, sides[0].length() - 1).split(", ");
            Object[] values = Arrays.stream(words).map(EdgeTests::numberOf).toArray();
            steps.add(new Step(sides[0], sides[0].substring(0, open), values, dueOf(sides[1])));
        }
        return steps;
    }

    private static Integer numberOf(String word) {
        return switch (word) {
            case "MIN" -> Integer.MIN_VALUE;
            case "MAX" -> Integer.MAX_VALUE;
            default -> Integer.valueOf(word);
        };
    }

    private static String dueOf(String word) {
        return switch (word) {
            case "NONE" -> "-1";
            case "NO" -> String.valueOf(Long.MIN_VALUE);
            default -> word;
        };
    }

    private static String answer(BernoulliWays x, String name, Object... values) throws Exception {
        Method method = METHODS.get(name + "/" + values.length);
        try {
            return String.valueOf(((Number) method.invoke(x, values)).longValue());
        } catch (InvocationTargetException thrown) {
            return "throws." + thrown.getCause().getClass().getSimpleName();
        }
    }

    // ---- the state behind a step -----------------------------------------------------------

    /** Of an object of its own, as telling the state takes many of an object's calls. */
    private static State stateAfter(List<Step> steps, int last) throws Exception {
        BernoulliWays x = new BernoulliWays();
        for (int i = 0; i <= last; i++) {
            answer(x, steps.get(i).name(), steps.get(i).values());
        }
        int telling = 4 * (LAST + 1) + 4 * (PLACES + 1) + 5;
        if (last + 1 + telling > MOST_CALLS) {
            tell("the run is too long");
        }
        return stateOf(x);
    }

    private static State stateOf(BernoulliWays x) {
        List<String> entries = new ArrayList<>();
        for (int n = 0; n <= LAST; n++) {
            entries.add(x.number(n, 0) + " " + x.number(n, 1) + "/" + x.number(n, 2) + " way " + x.way(n));
        }
        List<String> places = new ArrayList<>();
        List<String> counts = new ArrayList<>();
        for (int k = 0; k <= PLACES; k++) {
            places.add(x.memo(k, 0) + " " + x.memo(k, 1) + " " + x.memo(k, 2));
            counts.add("memo(" + k + ", 3) " + x.memo(k, 3));
        }
        for (int what = 0; what <= 4; what++) {
            counts.add("count(" + what + ") " + x.count(what));
        }
        return new State(entries, places, counts);
    }

    private static void compare(Step step, String got, State ahead, State then) {
        boolean refused = got.startsWith("-") || got.startsWith("throws.");
        if (refused || !CHANGING.contains(step.name())) {
            alike(step, "all", ahead.toString(), then.toString());
            return;
        }
        if (step.name().equals("residue")) {
            alike(step, "the table", ahead.entries().toString(), then.entries().toString());
            return;
        }
        alike(step, "the MEMO", ahead.places().toString(), then.places().toString());
        int top = topOf(ahead);
        for (int n = 0; n <= LAST; n++) {
            if (mayChange(step, n, top)) {
                continue;
            }
            alike(step, "entry " + n, ahead.entries().get(n), then.entries().get(n));
        }
    }

    private static boolean mayChange(Step step, int n, int top) {
        int first = (Integer) step.values()[0];
        return switch (step.name()) {
            case "lay" -> n > top && n <= first;
            case "heal" -> n <= top && first != 0;
            default -> n == first;
        };
    }

    private static int topOf(State state) {
        int laid = 0;
        for (String entry : state.entries()) {
            laid += entry.endsWith("way -2") ? 0 : 1;
        }
        return laid - 1;
    }

    private static void alike(Step step, String what, String ahead, String then) {
        if (!ahead.equals(then)) {
            tell(step.call() + " changed " + what + ": " + ahead + "; then " + then);
        }
    }

    // ---- what is no run --------------------------------------------------------------------

    /** What one object is asked and told, another one doesn't know. */
    private static void twoObjects() {
        BernoulliWays one = new BernoulliWays();
        BernoulliWays other = new BernoulliWays();
        State fresh = stateOf(new BernoulliWays());
        one.lay(38, 1);
        one.spoil(0, 1);
        one.residue(0, 5);
        one.byWay(199, 0, 2);
        one.pair(0, 0);
        one.onto(30, 2);
        one.sum(24, 5);
        asked++;
        if (!stateOf(other).equals(fresh)) {
            tell("one object's calls changed another one");
        }
        asked++;
        if (other.lay(38, 0) != 39 || other.count(1) != 0 || other.byWay(7, 0, 2) != 6) {
            tell("one object's calls changed what another one answers");
        }
    }

    /** Each call that is told a prime is told one of 3 to 199, and of no other number. */
    private static void primesAlone(int p) {
        boolean prime = p >= 3 && p <= 199;
        for (int q = 2; q * q <= p; q++) {
            prime &= p % q != 0;
        }
        BernoulliWays x = new BernoulliWays();
        x.lay(2, 1);
        long no = Long.MIN_VALUE;
        told("residue(0, " + p + ")", prime, x.residue(0, p), -1);
        told("byPowers(0, " + p + ")", prime, x.byPowers(0, p), -1);
        told("often(0, " + p + ")", prime, x.often(0, p), -100);
        told("kummer(" + p + ", 0, 2)", prime, x.kummer(p, 0, 2), -1);
        told("kummerTwice(" + p + ", 0, 2)", prime, x.kummerTwice(p, 0, 2), -1);
        told("irregular(" + p + ")", prime, x.irregular(p), -1);
        told("far(2, " + p + ")", prime, x.far(2, p), -1);
        told("voronoi(2, 1, " + p + ")", prime, x.voronoi(2, 1, p), -1);
        told("byWay(" + p + ", 0, 0)", prime, x.byWay(p, 0, 0), -1);
        told("nothings(" + p + ", 2)", prime, x.nothings(p, 2), -1);
        told("harmonic(" + p + ")", prime && p >= 5, x.harmonic(p), -1);
        told("wilson(" + p + ")", prime, x.wilson(p), -1);
        told("classNumber(" + p + ")", prime && p >= 7 && p % 4 == 3, x.classNumber(p), -1);
        told("quadratic(" + p + ", 1, 2)", prime, x.quadratic(p, 1, 2), no);
        told("at(1, 0, " + p + ")", prime, x.at(1, 0, p), -1);
        told("roots(1, " + p + ")", prime, x.roots(1, p), -1);
    }

    private static void told(String call, boolean due, long got, long refusal) {
        asked++;
        if ((got != refusal) != due) {
            tell(call + " answered " + got);
        }
    }

    // ---- the runs --------------------------------------------------------------------------

    private static final String[] RUNS = {
        """
        # 1: a new object: what tells of the table
        count(0) = -1; count(1) = 0; count(2) = 0; count(3) = 0; number(0, 0) = NO; number(38, 2) = NO
        way(0) = -2; way(38) = -2; right(0) = -2; right(38) = -2; agree(0) = -2; agree(38) = -2
        tests(0) = -2; tests(38) = -2; suspects(0) = 0; suspects(63) = 0; broken(0) = -2; broken(1) = 0
        culprit(0) = -2; culprit(63) = -2; trial(0, 1, 0) = -2; trial(MAX, 20, 63) = -2; heal(0) = 0
        heal(63) = 0; relay(0, 0) = -2; relay(0, 1) = -2; relay(38, 2) = -2; spoil(0, 1) = -2
        spoil(38, -9) = -2; remainder(1, 0) = NO; remainder(38, 0) = NO
        # 1: a new object: what is asked of entries
        residue(0, 3) = -2; residue(38, 199) = -2; memo(0, 0) = -2; memo(0, 3) = -2; often(0, 3) = -100
        often(38, 199) = -100; kummer(5, 2, 2) = -2; kummer(5, 0, 0) = -2; kummerTwice(5, 2, 2) = -2
        coefficient(0, 0, 0) = -2; coefficient(0, 1, 1) = -2; coefficient(24, 25, 0) = -2; sum(0, 0) = -2
        sum(24, 1000000000) = -2; progression(0, 0, 1, 0) = -2; progression(24, 1000, 1000, 1000000000) = -2
        triangular(1, 1, 0) = -2; triangular(15, 8, 1) = -2; poly(0, 0, 0) = NO; poly(38, 38, 2) = NO
        value(0, 0, 1, 0) = NO; at(0, 0, 3) = -2; at(38, 198, 199) = -2; roots(0, 3) = -2
        roots(38, 199) = -2; zeta(0, 0) = NO; zeta(37, 2) = NO; genocchi(0) = NO; tangent(2) = NO
        growth(4) = -2; growth(38) = -2
        # 1: a new object: what needs no entry
        prime(38, 0) = 2; whole(38) = 488332318973594; byPowers(32, 37) = 0
        triangleAt(38, 0, 0) = 488332318973593; whichBelow(6) = 2; irregular(37) = 1; pair(0, 0) = 37
        second(0) = 284; far(1000000, 199) = 173; voronoi(38, 198, 199) = 0; byWay(199, 0, 197) = 0
        nothings(199, 1) = 0; harmonic(199) = 178; wilson(199) = 118; classNumber(199) = 9
        quadratic(199, 4, 2) = 1; regulars(199) = 37; digits(24, 1000000000) = 224
        digit(24, 1000000000, 223) = 0; onto(30, 1) = 1; byBoxes(18, 0) = 54
        zigzag(23) = 1015423886506852352; count(0) = -1
        """,
        """
        # 2: the ends of n and way, nothing laid
        lay(-1, 0) = NONE; lay(-1, 1) = NONE; lay(39, 0) = NONE; lay(39, 2) = NONE; lay(MIN, 0) = NONE
        lay(MAX, 1) = NONE; lay(0, -1) = NONE; lay(0, 3) = NONE; lay(38, MIN) = NONE; lay(38, MAX) = NONE
        lay(-1, -1) = NONE; lay(39, 3) = NONE; count(0) = -1; lay(0, 0) = 1; count(0) = 0; way(0) = 0
        way(1) = -2
        # 2: n is TOP, TOP and 1, TOP less 1: ways stay of those that stand
        lay(0, 1) = 1; lay(0, 1) = 0; lay(0, 0) = 0; lay(0, 2) = 0; way(0) = 1; lay(1, 0) = 1; lay(0, 2) = 0
        lay(2, 2) = 1; lay(1, 1) = 0; lay(2, 0) = 0; way(0) = 1; way(1) = 0; way(2) = 2; lay(37, 1) = 35
        lay(38, 2) = 1; way(37) = 1; way(38) = 2; count(0) = 38
        # 2: a full table: nothing more is laid
        lay(38, 1) = 39; lay(38, 0) = 0; lay(38, 1) = 0; lay(38, 2) = 0; lay(37, 0) = 0; lay(0, 2) = 0
        lay(39, 1) = NONE; lay(-1, 1) = NONE; lay(38, 3) = NONE; lay(38, -1) = NONE; lay(39, 3) = NONE
        count(0) = 38; way(38) = 1
        # 2: the recurrence from nothing, all at once
        lay(38, 0) = 39; count(1) = 0; number(1, 0) = -1; number(1, 1) = 1; number(1, 2) = 2
        number(38, 0) = 488332318973593; number(38, 1) = 1; number(38, 2) = 6
        # 2: the sieve from nothing, all at once
        lay(38, 2) = 39; count(1) = 0; number(0, 0) = 1; number(1, 0) = -1; number(1, 2) = 2
        number(3, 0) = 0; number(3, 2) = 1; number(36, 0) = -13711655205089; number(36, 1) = 1280537
        number(36, 2) = 1919190
        # 2: by the recurrence, with one that isn't RIGHT: the last, which other answers hold too
        lay(6, 1) = 7; spoil(6, 1) = 45; lay(7, 0) = -3; lay(38, 0) = -3; lay(6, 0) = -3; lay(0, 0) = -3
        lay(-1, 0) = NONE; lay(39, 0) = NONE; lay(MAX, 0) = NONE; lay(7, 3) = NONE; lay(6, 1) = 0
        lay(6, 2) = 0; count(0) = 6; lay(7, 2) = 1; lay(8, 0) = -3; lay(8, 1) = 1; relay(6, 2) = 1
        lay(9, 0) = 1; way(9) = 0; lay(9, 0) = 0
        # 2: by the recurrence, ENTRY 0 alone, not RIGHT
        lay(0, 2) = 1; spoil(0, 9) = 32; lay(1, 0) = -3; lay(0, 0) = -3; count(0) = 0; spoil(0, -9) = 0
        right(0) = 1; way(0) = 3; lay(0, 0) = 0; lay(1, 0) = 1; way(0) = 3; way(1) = 0
        # 2: by the recurrence, all RIGHT again, though one was SPOILT and back
        lay(5, 1) = 6; spoil(5, -4) = 6; lay(6, 0) = -3; spoil(5, 4) = 0; way(5) = 3; lay(38, 0) = 33
        count(1) = 0
        """,
        """
        # 3: not laid, no such ones, which goes first
        relay(0, 0) = -2; relay(0, 2) = -2; relay(38, 0) = -2; relay(-1, 0) = NONE; relay(39, 0) = NONE
        relay(MIN, 1) = NONE; relay(MAX, 1) = NONE; relay(0, -1) = NONE; relay(0, 3) = NONE
        relay(38, MIN) = NONE; relay(38, MAX) = NONE; relay(39, 3) = NONE; lay(10, 1) = 11; relay(10, 0) = 0
        way(10) = 0; relay(10, 2) = 0; way(10) = 2; relay(11, 0) = -2; relay(11, 1) = -2; relay(38, 2) = -2
        relay(11, 3) = NONE; relay(10, 3) = NONE; relay(10, -1) = NONE; relay(39, 1) = NONE
        relay(-1, 1) = NONE; way(10) = 2
        # 3: by the recurrence, with one below that isn't RIGHT
        lay(10, 2) = 11; spoil(4, 3) = 39; relay(5, 0) = -3; relay(10, 0) = -3; relay(11, 0) = -2
        relay(38, 0) = -2; relay(39, 0) = NONE; relay(-1, 0) = NONE; relay(5, 3) = NONE; way(5) = 2
        way(10) = 2; relay(3, 0) = 0; way(3) = 0; relay(5, 1) = 0; relay(5, 2) = 0; way(5) = 2
        relay(4, 0) = 1; way(4) = 0; relay(5, 0) = 0; relay(4, 0) = 0
        # 3: of the ends: ENTRIES 0 and 38 themselves not RIGHT
        lay(38, 1) = 39; spoil(0, 1) = 32; spoil(38, 1) = 61; relay(38, 0) = -3; relay(38, 3) = NONE
        way(38) = 3; relay(1, 0) = -3; relay(0, 0) = 1; way(0) = 0; right(0) = 1; relay(38, 0) = 1
        way(38) = 0; relay(38, 2) = 0; relay(38, 1) = 0; relay(0, 2) = 0; relay(39, 0) = NONE
        # 3: SPOILT and back: it isn't another one then, but its WAY is
        lay(3, 1) = 4; spoil(3, 7) = 6; spoil(3, -7) = 0; way(3) = 3; relay(3, 2) = 0; way(3) = 2
        """,
        """
        # 4: the ends of n and d
        spoil(0, 1) = -2; spoil(0, 0) = NONE; spoil(0, 10) = NONE; spoil(-1, 1) = NONE; lay(38, 1) = 39
        spoil(0, 0) = NONE; spoil(0, 10) = NONE; spoil(0, -10) = NONE; spoil(0, MIN) = NONE
        spoil(0, MAX) = NONE; spoil(38, 10) = NONE; spoil(-1, 1) = NONE; spoil(39, 1) = NONE
        spoil(MIN, 1) = NONE; spoil(MAX, 1) = NONE; spoil(39, 0) = NONE; count(1) = 0; way(0) = 1
        spoil(0, 9) = 32; number(0, 0) = 10; spoil(0, -9) = 0; number(0, 0) = 1; spoil(0, -9) = 34
        number(0, 0) = -8; spoil(0, 1) = 34; spoil(0, -1) = 34; number(0, 0) = -8; spoil(38, -9) = 61
        number(38, 0) = 488332318973591; number(38, 1) = 2; number(38, 2) = 3; spoil(38, 9) = 61
        number(38, 0) = 488332318973594; number(38, 1) = 2; number(38, 2) = 3
        # 4: not laid: the first above TOP, and with a d that isn't one
        lay(4, 1) = 5; spoil(5, 1) = -2; spoil(38, 9) = -2; spoil(5, 0) = NONE; spoil(5, 10) = NONE
        spoil(5, -10) = NONE; spoil(38, 0) = NONE; spoil(39, 1) = NONE; count(1) = 0; spoil(4, 1) = 39
        count(1) = 1; way(4) = 3
        # 4: ABOVE goes round: past BELOW, to 0, below 0
        lay(38, 1) = 39; spoil(2, 5) = 37; number(2, 0) = 1; number(2, 1) = 0; number(2, 2) = 1
        spoil(2, -1) = 39; number(2, 0) = 0; number(2, 1) = 0; number(2, 2) = 1; spoil(2, -1) = 39
        number(2, 0) = -1; spoil(4, -1) = 37; number(4, 0) = -1; number(4, 1) = 14; number(4, 2) = 15
        spoil(4, 1) = 39; number(4, 0) = 0; number(4, 1) = 0; number(4, 2) = 1; spoil(1, 1) = 7
        number(1, 0) = 0; number(1, 2) = 1; spoil(1, -1) = 5; number(1, 0) = -1; number(1, 2) = 1
        spoil(36, 9) = 45; number(36, 0) = -13711655205089; number(36, 1) = 640273; number(36, 2) = 959595
        """,
        """
        # 5: the ends of some
        heal(-1) = NONE; heal(64) = NONE; heal(0) = 0; heal(63) = 0; lay(38, 2) = 39; spoil(3, 1) = 6
        heal(-1) = NONE; heal(64) = NONE; heal(MIN) = NONE; heal(MAX) = NONE; heal(0) = 0; number(3, 0) = 1
        way(3) = 3; heal(63) = 1; number(3, 0) = 0; way(3) = 1; way(2) = 2; way(4) = 1; way(38) = 1
        heal(63) = 0
        # 5: those that fail are laid anew, others keep their WAY; one that fails none of these stays SPOILT
        lay(38, 2) = 39; spoil(3, 1) = 6; spoil(5, 1) = 6; spoil(38, 6) = 60; heal(1) = 0; way(3) = 3
        heal(16) = 1; way(38) = 1; way(3) = 3; heal(2) = 2; way(3) = 1; way(5) = 1; way(4) = 2; way(6) = 2
        count(1) = 0
        # 5: as they stand ahead of it: all that fail by ENTRY 0 are laid anew, though 0 alone was wrong
        lay(38, 0) = 39; spoil(0, 1) = 32; heal(4) = 0; way(0) = 3; way(1) = 1; way(38) = 1; right(0) = 0
        heal(32) = 1; way(0) = 1; right(0) = 1
        # 5: TOP is 0
        lay(0, 0) = 1; heal(63) = 0; way(0) = 0; spoil(0, -1) = 34; heal(32) = 1; way(0) = 1
        """,
        """
        # 6: another what, ahead of all
        number(0, -1) = throws.NoSuchElementException; number(0, 3) = throws.NoSuchElementException
        number(0, MIN) = throws.NoSuchElementException; number(0, MAX) = throws.NoSuchElementException
        number(-1, 3) = throws.NoSuchElementException; number(39, -1) = throws.NoSuchElementException
        number(MIN, 3) = throws.NoSuchElementException; number(0, 0) = NO; number(0, 2) = NO
        number(-1, 0) = NO; number(39, 2) = NO; lay(4, 1) = 5; number(4, 3) = throws.NoSuchElementException
        number(5, 3) = throws.NoSuchElementException; number(5, -1) = throws.NoSuchElementException
        number(4, 0) = -1; number(4, 1) = 29; number(4, 2) = 30; number(5, 0) = NO; number(5, 2) = NO
        number(38, 1) = NO; number(39, 0) = NO; number(-1, 0) = NO; number(MIN, 1) = NO; number(MAX, 1) = NO
        lay(38, 1) = 34; number(38, 0) = 488332318973593; number(39, 0) = NO
        number(38, 3) = throws.NoSuchElementException; number(0, 0) = 1; number(0, 1) = 0; number(0, 2) = 1
        """,
        """
        # 7: the ends of n
        way(0) = -2; way(-1) = NONE; way(39) = NONE; way(38) = -2; lay(4, 2) = 5; way(4) = 2; way(5) = -2
        way(38) = -2; way(39) = NONE; way(-1) = NONE; way(MIN) = NONE; way(MAX) = NONE; lay(38, 0) = 34
        way(0) = 2; way(38) = 0; way(39) = NONE; spoil(38, 1) = 61; way(38) = 3; heal(63) = 1; way(38) = 1
        """,
        """
        # 8: the ends of n
        right(0) = -2; right(-1) = NONE; right(39) = NONE; lay(4, 2) = 5; right(0) = 1; right(4) = 1
        right(5) = -2; right(38) = -2; right(39) = NONE; right(-1) = NONE; right(MIN) = NONE
        right(MAX) = NONE; lay(38, 0) = 34; right(38) = 1; right(39) = NONE; spoil(38, -1) = 61
        right(38) = 0; right(37) = 1; spoil(0, -1) = 34; right(0) = 0; right(1) = 1
        """,
        """
        # 9: the ends of n
        agree(0) = -2; agree(-1) = NONE; agree(39) = NONE; lay(4, 2) = 5; agree(0) = 3; agree(1) = 3
        agree(4) = 3; agree(5) = -2; agree(38) = -2; agree(39) = NONE; agree(-1) = NONE; agree(MIN) = NONE
        agree(MAX) = NONE; lay(38, 1) = 34; agree(38) = 3; agree(37) = 3; agree(39) = NONE
        # 9: THE RECURRENCE counts only if all below are RIGHT
        lay(38, 1) = 39; spoil(0, 1) = 32; agree(0) = 0; agree(1) = 2; agree(38) = 2; spoil(1, -1) = 1
        agree(1) = 0; relay(0, 1) = 1; agree(0) = 3; agree(1) = 0; agree(2) = 2; relay(1, 1) = 1
        spoil(38, 2) = 61; agree(38) = 0; agree(37) = 3; agree(39) = NONE
        """,
        """
        # 10: the ends of n and k
        prime(0, 0) = -2; prime(0, MAX) = -2; prime(0, -1) = NONE; prime(1, 0) = 2; prime(1, 1) = -2
        prime(1, -1) = NONE; prime(2, 0) = 2; prime(2, 1) = 3; prime(2, 2) = -2; prime(3, 0) = -2
        prime(3, -1) = NONE; prime(37, 0) = -2; prime(38, 0) = 2; prime(38, 1) = 3; prime(38, 2) = -2
        prime(38, MAX) = -2; prime(38, -1) = NONE; prime(38, MIN) = NONE; prime(39, 0) = NONE
        prime(39, 9) = NONE; prime(39, -1) = NONE; prime(-1, 0) = NONE; prime(-1, -1) = NONE
        prime(MIN, 0) = NONE; prime(MAX, 0) = NONE; prime(36, 6) = 37; prime(36, 7) = -2; lay(38, 1) = 39
        spoil(36, 9) = 45; prime(36, 6) = 37; prime(36, 7) = -2
        """,
        """
        # 11: the ends of n
        whole(2) = 1; whole(38) = 488332318973594; whole(4) = 1; whole(36) = -13711655205087; whole(0) = NO
        whole(1) = NO; whole(3) = NO; whole(37) = NO; whole(39) = NO; whole(40) = NO; whole(-2) = NO
        whole(MIN) = NO; whole(MAX) = NO; lay(38, 1) = 39; spoil(38, 9) = 61; whole(38) = 488332318973594
        """,
        """
        # 12: the ends of n and p
        lay(12, 1) = 13; residue(0, 3) = 1; residue(0, 199) = 1; residue(0, 2) = NONE; residue(0, 1) = NONE
        residue(0, 0) = NONE; residue(0, -3) = NONE; residue(0, 4) = NONE; residue(0, 9) = NONE
        residue(0, 195) = NONE; residue(0, 198) = NONE; residue(0, 200) = NONE; residue(0, 201) = NONE
        residue(0, 211) = NONE; residue(0, MIN) = NONE; residue(0, MAX) = NONE; residue(-1, 5) = NONE
        residue(39, 5) = NONE; residue(MIN, 5) = NONE; residue(MAX, 5) = NONE; residue(12, 197) = 88
        residue(12, 199) = 23; count(2) = 4
        # 12: which goes first; those refused don't come into THE MEMO
        lay(12, 1) = 13; residue(13, 5) = -2; residue(38, 199) = -2; residue(13, 4) = NONE
        residue(13, 2) = NONE; residue(38, 200) = NONE; residue(39, 4) = NONE; residue(36, 37) = -2
        residue(36, 35) = NONE; residue(12, 13) = -3; residue(12, 7) = -3; residue(12, 5) = -3
        residue(12, 3) = -3; residue(12, 2) = NONE; residue(12, 6) = NONE; residue(12, 91) = NONE
        residue(1, 2) = NONE; residue(39, 13) = NONE; count(2) = 0; memo(0, 0) = -2; residue(12, 11) = 1
        count(2) = 1
        # 12: BELOW as it stands: SPOILT, p may divide it no more; laid anew, it does again
        lay(10, 1) = 11; residue(10, 3) = -3; spoil(10, 1) = 61; number(10, 2) = 11; residue(10, 3) = 2
        residue(10, 11) = -3; residue(10, 5) = 1; count(2) = 2; relay(10, 2) = 1; residue(10, 3) = -3
        memo(0, 0) = 10; memo(0, 1) = 3; memo(0, 2) = 2; memo(0, 3) = 0; count(2) = 2; count(3) = 2
        residue(10, 5) = 0; memo(1, 2) = 0; memo(1, 3) = 1; count(3) = 1
        """,
        """
        # 13: the ends of n and p, which goes first
        byPowers(0, 3) = -3; byPowers(0, 199) = -3; byPowers(1, 199) = -3; byPowers(2, 199) = 166
        byPowers(2, 197) = 33; byPowers(2, 5) = 1; byPowers(2, 3) = -3; byPowers(38, 3) = -3
        byPowers(37, 199) = -3; byPowers(38, 199) = 83; byPowers(38, 5) = 4; byPowers(36, 37) = -3
        byPowers(34, 37) = 2; byPowers(36, 41) = 39; byPowers(39, 5) = NONE; byPowers(40, 5) = NONE
        byPowers(-1, 5) = NONE; byPowers(-2, 5) = NONE; byPowers(-4, 5) = NONE; byPowers(MIN, 5) = NONE
        byPowers(MAX, 5) = NONE; byPowers(2, 2) = NONE; byPowers(0, 2) = NONE; byPowers(3, 4) = NONE
        byPowers(8, 9) = NONE; byPowers(2, 200) = NONE; byPowers(2, 211) = NONE; byPowers(2, 1) = NONE
        byPowers(2, 0) = NONE; byPowers(2, -5) = NONE; byPowers(2, MIN) = NONE; byPowers(2, MAX) = NONE
        count(2) = 0; lay(38, 1) = 39; spoil(38, 9) = 61; byPowers(38, 5) = 4; count(2) = 0
        """,
        """
        # 14: no such ones, not so many
        memo(0, 0) = -2; memo(0, 3) = -2; memo(MAX, 0) = -2; memo(0, -1) = NONE; memo(0, 4) = NONE
        memo(-1, 0) = NONE; memo(-1, 4) = NONE; memo(MIN, 0) = NONE; memo(MAX, MAX) = NONE
        memo(0, MIN) = NONE; lay(2, 1) = 3; residue(2, 7) = 6; memo(0, 0) = 2; memo(0, 1) = 7
        memo(0, 2) = 6; memo(0, 3) = 1; memo(0, 4) = NONE; memo(0, -1) = NONE; memo(1, 0) = -2
        memo(1, 3) = -2; memo(1, 4) = NONE; memo(1, -1) = NONE; memo(-1, 0) = NONE; memo(MAX, 3) = -2
        # 14: 20 places: the 20th, the 21st, and asked again
        lay(38, 1) = 39; residue(0, 3) = 1; residue(0, 5) = 1; residue(0, 7) = 1; residue(0, 11) = 1
        residue(0, 13) = 1; residue(0, 17) = 1; residue(0, 19) = 1; residue(0, 23) = 1; residue(0, 29) = 1
        residue(0, 31) = 1; residue(0, 37) = 1; residue(0, 41) = 1; residue(0, 43) = 1; residue(0, 47) = 1
        residue(0, 53) = 1; residue(0, 59) = 1; residue(0, 61) = 1; residue(0, 67) = 1; residue(0, 71) = 1
        count(2) = 19; memo(18, 1) = 71; memo(19, 1) = -2; memo(0, 1) = 3; residue(1, 3) = 1; count(2) = 20
        memo(0, 1) = 3; memo(19, 0) = 1; memo(19, 1) = 3; memo(20, 0) = -2; memo(20, 4) = NONE
        residue(0, 3) = 1; count(2) = 20; memo(0, 1) = 3; memo(19, 0) = 1; residue(39, 3) = NONE
        residue(2, 2) = NONE; residue(2, 3) = -3; count(2) = 20; memo(0, 1) = 3; memo(19, 0) = 1
        residue(3, 3) = 0; count(2) = 20; memo(0, 1) = 5; memo(18, 0) = 1; memo(18, 1) = 3; memo(19, 0) = 3
        memo(19, 1) = 3; memo(19, 2) = 0; memo(20, 0) = -2; residue(0, 3) = 1; memo(0, 1) = 7
        memo(19, 0) = 0; memo(19, 1) = 3; spoil(0, 4) = 32; count(3) = 18; memo(0, 2) = 1; memo(0, 3) = 0
        residue(0, 7) = 5; memo(0, 1) = 7; memo(0, 2) = 5; memo(0, 3) = 1; count(2) = 20; count(3) = 17
        residue(4, 7) = 3; memo(0, 1) = 11; memo(19, 0) = 4; count(2) = 20; residue(4, 199) = 126
        residue(4, 197) = 151; memo(0, 1) = 17; memo(17, 1) = 7; memo(18, 1) = 199; memo(19, 1) = 197
        # 14: by n and p: the same n of another p, the same p of another n
        lay(10, 1) = 11; residue(4, 7) = 3; residue(4, 11) = 4; residue(6, 11) = 5; residue(8, 7) = 3
        count(2) = 4; memo(0, 0) = 4; memo(0, 1) = 7; memo(1, 0) = 4; memo(1, 1) = 11; memo(2, 0) = 6
        memo(3, 0) = 8; memo(4, 0) = -2
        # 14: it stays as it was, whatever ENTRIES become
        lay(4, 1) = 5; residue(4, 7) = 3; spoil(4, 1) = 39; spoil(4, 1) = 39; memo(0, 2) = 3; memo(0, 3) = 0
        count(3) = 1; heal(63) = 1; memo(0, 2) = 3; memo(0, 3) = 1; count(3) = 0; spoil(4, 7) = 39
        memo(0, 3) = 1; count(3) = 0; lay(38, 1) = 34; memo(0, 2) = 3; count(2) = 1
        # 14: k below 0, of a MEMO that has some
        lay(2, 1) = 3; residue(2, 7) = 6; memo(-1, 0) = NONE; memo(-1, 1) = NONE; memo(-1, 2) = NONE
        memo(-1, 3) = NONE; memo(MIN, 3) = NONE; memo(1, 3) = -2; memo(MAX, 3) = -2
        """,
        """
        # 15: no such ones, not laid, 0
        often(0, 3) = -100; often(3, 3) = -100; often(3, 2) = -100; lay(4, 1) = 5; often(0, 3) = 0
        often(0, 199) = 0; often(3, 3) = 100; often(3, 199) = 100; often(3, 2) = -100; often(3, 4) = -100
        often(3, 200) = -100; often(3, 211) = -100; often(4, 3) = -1; often(4, 5) = -1; often(4, 7) = 0
        often(5, 3) = -100; often(38, 199) = -100; often(39, 3) = -100; often(-1, 3) = -100
        often(MIN, 3) = -100; often(MAX, 3) = -100; often(0, MIN) = -100; often(0, MAX) = -100
        often(0, 0) = -100; often(0, 1) = -100; lay(38, 1) = 34; often(38, 19) = 1; often(38, 3) = -1
        often(38, 199) = 0; often(37, 37) = 100; often(39, 19) = -100; spoil(4, 1) = 39; often(4, 3) = 100
        spoil(3, 9) = 6; often(3, 3) = 2; spoil(3, 9) = 6; spoil(3, 9) = 6; often(3, 3) = 3; count(2) = 0
        # 15: p divides ABOVE alone, or what WHOLE brings
        lay(38, 1) = 39; often(10, 5) = 1; often(14, 7) = 1; often(32, 37) = 1; often(38, 19) = 1
        spoil(0, 8) = 32; often(0, 3) = 2; spoil(0, -9) = 34; often(0, 3) = 100; spoil(0, -9) = 34
        often(0, 3) = 2
        """,
        """
        # 16: no such p, m, n
        kummer(5, 2, 6) = -2; kummer(4, 2, 6) = NONE; kummer(2, 2, 6) = NONE; kummer(5, 39, 6) = NONE
        kummer(5, 6, 39) = NONE; lay(38, 1) = 39; kummer(5, 2, 6) = 0; kummer(5, 2, 38) = 0
        kummer(5, 38, 2) = 0; kummer(37, 2, 38) = 0; kummer(199, 38, 38) = 0; kummer(199, 2, 2) = 0
        kummer(2, 2, 2) = NONE; kummer(1, 2, 2) = NONE; kummer(0, 2, 2) = NONE; kummer(-5, 2, 6) = NONE
        kummer(9, 2, 10) = NONE; kummer(200, 2, 2) = NONE; kummer(211, 2, 2) = NONE
        kummer(MIN, 2, 2) = NONE; kummer(MAX, 2, 2) = NONE; kummer(5, -1, 3) = NONE; kummer(5, 3, -1) = NONE
        kummer(5, -2, 2) = NONE; kummer(5, 2, -2) = NONE; kummer(5, 39, 3) = NONE; kummer(5, 2, 42) = NONE
        kummer(5, 42, 2) = NONE; kummer(5, MIN, 2) = NONE; kummer(5, 2, MIN) = NONE
        kummer(5, MAX, 2) = NONE; kummer(5, 2, MAX) = NONE
        # 16: it isn't told for these
        lay(38, 1) = 39; kummer(3, 2, 2) = -3; kummer(3, 38, 2) = -3; kummer(5, 0, 0) = -3
        kummer(5, 0, 2) = -3; kummer(5, 2, 0) = -3; kummer(5, 0, 4) = -3; kummer(5, 1, 1) = -3
        kummer(5, 1, 5) = -3; kummer(5, 3, 7) = -3; kummer(5, 2, 3) = -3; kummer(5, 2, 4) = -3
        kummer(5, 2, 8) = -3; kummer(5, 4, 4) = -3; kummer(5, 8, 4) = -3; kummer(5, 10, 10) = -3
        kummer(5, 10, 2) = -3; kummer(5, 2, 10) = -3; kummer(5, 30, 2) = -3; kummer(7, 14, 2) = -3
        kummer(7, 8, 2) = 0; kummer(7, 2, 38) = 0; kummer(37, 36, 36) = -3; kummer(37, 0, 36) = -3
        kummer(37, 37, 1) = -3; kummer(37, 34, 34) = 0; kummer(199, 37, 37) = -3
        # 16: which goes first
        lay(5, 1) = 6; kummer(5, 2, 6) = -2; kummer(5, 6, 2) = -2; kummer(5, 6, 10) = -2
        kummer(5, 5, 6) = -2; kummer(5, 0, 38) = -2; kummer(5, 8, 4) = -2; kummer(3, 2, 6) = -2
        kummer(4, 2, 6) = NONE; kummer(4, 2, 3) = NONE; kummer(5, 39, 6) = NONE; kummer(5, 6, 39) = NONE
        kummer(5, -1, 3) = NONE; kummer(5, -1, 6) = NONE; kummer(5, 5, 5) = -3; kummer(5, 4, 4) = -3
        kummer(5, 2, 2) = 0
        # 16: p - 1 divides m, n, though p divides their BELOWS no more
        lay(38, 1) = 39; spoil(4, 1) = 39; spoil(8, 1) = 47; number(4, 2) = 1; number(8, 2) = 1
        kummer(5, 4, 4) = -3; kummer(5, 4, 8) = -3; kummerTwice(5, 4, 4) = -3; kummer(7, 4, 4) = 0
        kummer(7, 8, 2) = 4
        """,
        """
        # 17: no such p, m, n
        kummerTwice(5, 2, 22) = -2; kummerTwice(6, 2, 22) = NONE; kummerTwice(5, 39, 22) = NONE
        lay(38, 1) = 39; kummerTwice(5, 2, 22) = 0; kummerTwice(5, 38, 18) = 0; kummerTwice(5, 18, 38) = 0
        kummerTwice(5, 38, 38) = 0; kummerTwice(199, 2, 2) = 0; kummerTwice(199, 38, 38) = 0
        kummerTwice(2, 2, 2) = NONE; kummerTwice(1, 2, 2) = NONE; kummerTwice(0, 2, 2) = NONE
        kummerTwice(-5, 2, 22) = NONE; kummerTwice(25, 2, 2) = NONE; kummerTwice(200, 2, 2) = NONE
        kummerTwice(211, 2, 2) = NONE; kummerTwice(MIN, 2, 2) = NONE; kummerTwice(MAX, 2, 2) = NONE
        kummerTwice(5, -1, 19) = NONE; kummerTwice(5, -18, 2) = NONE; kummerTwice(5, 2, -18) = NONE
        kummerTwice(5, 2, 42) = NONE; kummerTwice(5, 39, 19) = NONE; kummerTwice(5, MIN, 2) = NONE
        kummerTwice(5, 2, MAX) = NONE
        # 17: it isn't told for these
        lay(38, 1) = 39; kummerTwice(5, 2, 6) = -3; kummerTwice(5, 2, 18) = -3; kummerTwice(5, 2, 20) = -3
        kummerTwice(5, 4, 24) = -3; kummerTwice(5, 10, 30) = -3; kummerTwice(5, 20, 0) = -3
        kummerTwice(5, 0, 0) = -3; kummerTwice(5, 1, 21) = -3; kummerTwice(5, 21, 1) = -3
        kummerTwice(3, 2, 8) = -3; kummerTwice(7, 2, 8) = -3; kummerTwice(7, 2, 38) = -3
        kummerTwice(7, 14, 14) = -3; kummerTwice(7, 6, 6) = -3; kummerTwice(7, 8, 8) = 0
        kummerTwice(199, 37, 37) = -3
        # 17: which goes first
        lay(21, 1) = 22; kummerTwice(5, 2, 22) = -2; kummerTwice(5, 22, 2) = -2; kummerTwice(5, 4, 24) = -2
        kummerTwice(5, 3, 38) = -2; kummerTwice(5, 0, 22) = -2; kummerTwice(8, 2, 22) = NONE
        kummerTwice(8, 3, 4) = NONE; kummerTwice(5, 39, 22) = NONE; kummerTwice(5, 22, 39) = NONE
        kummerTwice(5, -1, 3) = NONE; kummerTwice(5, 2, 6) = -3; lay(22, 1) = 1; kummerTwice(5, 2, 22) = 0
        spoil(22, 1) = 61; kummerTwice(5, 2, 22) = 9; kummerTwice(5, 22, 2) = 16
        # 17: far beyond
        lay(38, 1) = 39; kummerTwice(5, MAX, 2) = NONE; kummerTwice(5, 19, -1) = NONE
        kummerTwice(5, 2, MIN) = NONE; kummerTwice(5, MIN, MIN) = NONE
        """,
        """
        # 18: the ends of n
        tests(0) = -2; tests(-1) = NONE; tests(39) = NONE; lay(4, 1) = 5; tests(0) = 0; tests(4) = 0
        tests(5) = -2; tests(38) = -2; tests(39) = NONE; tests(-1) = NONE; tests(MIN) = NONE
        tests(MAX) = NONE; lay(38, 2) = 34; tests(38) = 0; tests(37) = 0; tests(39) = NONE
        # 18: test 1: of 0, 1, an odd one, an even one
        lay(38, 1) = 39; spoil(0, 3) = 32; spoil(0, -3) = 0; spoil(1, 1) = 7; spoil(1, -1) = 5
        relay(1, 1) = 1; spoil(1, 2) = 6; number(1, 2) = 2; relay(1, 1) = 1; spoil(3, 2) = 6
        relay(3, 1) = 1; spoil(38, 6) = 60; number(38, 2) = 6; relay(38, 1) = 1; spoil(38, 5) = 61
        number(38, 2) = 1
        # 18: test 2: 0 where another sign is due, another sign, and 0 where it is due
        lay(8, 1) = 9; spoil(0, -1) = 34; number(0, 0) = 0; spoil(0, -1) = 34; relay(0, 1) = 1
        spoil(4, 1) = 39; number(4, 0) = 0; spoil(4, 1) = 39; relay(4, 1) = 1; spoil(2, -1) = 39
        spoil(2, -1) = 39; relay(2, 1) = 1; spoil(3, -1) = 6; relay(3, 1) = 1; spoil(1, 1) = 7
        spoil(1, 1) = 7; spoil(1, -2) = 5
        # 18: test 4: 0 has none, 1 has; those below TOP's own as they stand
        lay(3, 1) = 4; spoil(0, 1) = 32; tests(0) = 32; tests(1) = 4; tests(2) = 4; tests(3) = 4
        spoil(1, -1) = 1; tests(1) = 1; tests(2) = 4
        # 18: test 8: a lesser m alone; 2 has none; the primes 5 and 37 are the ends
        lay(38, 1) = 39; spoil(6, 1) = 45; tests(2) = 0; tests(6) = 45; tests(10) = 4; tests(14) = 12
        tests(18) = 44; relay(6, 1) = 1; spoil(38, 6) = 60; kummer(37, 2, 38) = 36; kummer(5, 2, 38) = 3
        tests(2) = 0; relay(38, 1) = 1; spoil(2, 1) = 37; kummer(37, 2, 38) = 34; tests(38) = 44
        tests(2) = 37
        # 18: test 16: p divides n, p - 1 doesn't: 10 and 38 have one, 20 and 36 none of 5, 2 none at all
        lay(38, 1) = 39; spoil(10, 5) = 45; number(10, 2) = 33; relay(10, 1) = 1; spoil(20, 9) = 45
        relay(20, 1) = 1; spoil(38, 1) = 61; relay(38, 1) = 1; spoil(36, 7) = 45; relay(36, 1) = 1
        spoil(2, 3) = 37; relay(2, 1) = 1; spoil(14, 7) = 45; spoil(14, 1) = 61; relay(14, 1) = 1
        spoil(3, 1) = 6
        # 18: test 32: n modulo 6 is 0, 2, 4; odd ones have none
        lay(38, 1) = 39; spoil(0, 2) = 32; tests(6) = 36; tests(36) = 36; tests(2) = 4; tests(38) = 4
        tests(4) = 4; tests(1) = 4; tests(3) = 4; relay(0, 1) = 1; spoil(2, 6) = 36; tests(8) = 44
        tests(38) = 44; tests(36) = 4; relay(2, 1) = 1; spoil(4, 30) = NONE; spoil(4, 6) = 39
        tests(34) = 44; tests(10) = 44; tests(12) = 4
        # 18: test 8 by the prime 37 alone: 2 is 76 then, 455/6 more, which 5, 7 and 13 divide
        lay(38, 1) = 39; spoil(2, 5) = 37; spoil(2, 9) = 37; spoil(2, 9) = 37; spoil(2, 9) = 37
        spoil(2, 9) = 37; spoil(2, 9) = 37; spoil(2, 9) = 37; spoil(2, 9) = 37; spoil(2, 9) = 37
        spoil(2, 3) = 37; number(2, 0) = 76; kummer(5, 2, 38) = 0; kummer(7, 2, 38) = 0
        kummer(13, 2, 38) = 0; kummer(37, 2, 38) = 4; tests(38) = 44; tests(26) = 36
        """,
        """
        # 19: the ends of some
        suspects(0) = 0; suspects(63) = 0; suspects(-1) = NO; suspects(64) = NO; lay(38, 1) = 39
        spoil(38, 1) = 61; suspects(-1) = NO; suspects(64) = NO; suspects(MIN) = NO; suspects(MAX) = NO
        suspects(0) = 0; suspects(63) = 274877906944; suspects(1) = 274877906944; suspects(2) = 0
        suspects(32) = 274877906944; spoil(0, 1) = 32; suspects(63) = 549755813887
        suspects(4) = 549755813886; suspects(2) = 0; suspects(32) = 344688169025; spoil(0, -2) = 34
        suspects(2) = 1; suspects(3) = 274877906945
        # 19: the least table
        lay(0, 0) = 1; suspects(63) = 0; spoil(0, -9) = 34; suspects(63) = 1; suspects(2) = 1
        suspects(4) = 0; suspects(29) = 0
        """,
        """
        # 20: another what; none
        broken(0) = -2; broken(1) = 0; broken(-1) = NONE; broken(2) = NONE; broken(MIN) = NONE
        broken(MAX) = NONE; lay(0, 1) = 1; spoil(0, 5) = 32; broken(0) = -2; broken(1) = 0; lay(1, 1) = 1
        broken(0) = 1; broken(1) = 1; relay(0, 1) = 1; broken(0) = -2; broken(1) = 0; broken(2) = NONE
        broken(-1) = NONE
        # 20: a full table: the last one alone, all from 1 on
        lay(38, 1) = 39; broken(0) = -2; broken(1) = 0; spoil(38, 1) = 61; broken(0) = 38; broken(1) = 1
        broken(2) = NONE; spoil(0, 1) = 32; broken(0) = 1; broken(1) = 38
        # 20: TEST 4 alone: 1 has a wrong BELOW, but what 0 and 1 make together is 0
        lay(1, 1) = 2; spoil(0, 1) = 32; broken(0) = 1; broken(1) = 1; spoil(1, -1) = 1; broken(0) = -2
        broken(1) = 0; lay(2, 1) = 1; broken(0) = 2; broken(1) = 1
        """,
        """
        # 21: the ends of some; none laid
        culprit(0) = -2; culprit(63) = -2; culprit(-1) = NONE; culprit(64) = NONE; culprit(MIN) = NONE
        culprit(MAX) = NONE; lay(38, 1) = 39; culprit(-1) = NONE; culprit(64) = NONE; culprit(0) = 0
        culprit(63) = 0; spoil(38, 1) = 61; culprit(63) = 38; culprit(2) = 0; culprit(64) = NONE
        culprit(0) = 0; spoil(0, 1) = 32; culprit(63) = -2; culprit(2) = 0; culprit(1) = 38
        culprit(64) = NONE; relay(38, 1) = 1; culprit(63) = 0; culprit(32) = 0
        # 21: the least of those by which none would fail
        lay(3, 1) = 4; spoil(3, 1) = 6; culprit(63) = 3; culprit(4) = 3; culprit(1) = 0; culprit(2) = 3
        spoil(2, 1) = 37; culprit(2) = 3; culprit(1) = 2; culprit(63) = -2; culprit(4) = -2
        # 21: ENTRY 0 must not fail, either
        lay(3, 1) = 4; spoil(0, 9) = 32; spoil(3, 1) = 6; culprit(34) = -2; culprit(32) = 0; culprit(2) = 3
        culprit(63) = -2
        """,
        """
        # 22: the ends of seed, n, some; none laid, which goes first
        trial(0, 1, 0) = -2; trial(1, 20, 63) = -2; trial(-1, 1, 0) = NONE; trial(0, 0, 0) = NONE
        trial(0, 21, 0) = NONE; trial(0, 1, -1) = NONE; trial(0, 1, 64) = NONE; lay(38, 1) = 39
        trial(0, 1, 63) = 1; trial(0, 20, 63) = 16; trial(0, 20, 0) = 0; trial(2147483647, 1, 63) = 1
        trial(MAX, 20, 63) = 16; trial(MAX, 20, 2) = 5; trial(-1, 1, 63) = NONE; trial(MIN, 1, 63) = NONE
        trial(0, 0, 63) = NONE; trial(0, -1, 63) = NONE; trial(0, 21, 63) = NONE; trial(0, MIN, 63) = NONE
        trial(0, MAX, 63) = NONE; trial(0, 1, -1) = NONE; trial(0, 1, 64) = NONE; trial(0, 1, MIN) = NONE
        trial(0, 1, MAX) = NONE; count(1) = 0
        # 22: the least table; what is SPOILT already is SPOILT on
        lay(0, 1) = 1; trial(0, 1, 63) = 1; trial(1, 1, 63) = 1; trial(1, 2, 2) = 1; spoil(0, 9) = 32
        trial(1, 1, 63) = 1; trial(0, 20, 63) = 1; number(0, 0) = 10; way(0) = 3; lay(2, 1) = 2
        trial(12345, 20, 63) = 3; trial(12345, 20, 1) = 2
        # 22: what is drawn
        lay(0, 1) = 1; trial(7, 2, 63) = 0; trial(23, 2, 63) = 0; trial(3, 3, 2) = 1; lay(38, 1) = 38
        trial(1, 2, 1) = 1; trial(10, 1, 1) = 0; trial(12, 1, 1) = 1; trial(5, 2, 1) = 0
        """,
        """
        # 23: the ends of n and what, not laid
        remainder(1, 0) = NO; lay(4, 1) = 5; remainder(1, 0) = 0; remainder(1, 1) = 0; remainder(1, 2) = 1
        remainder(4, 0) = 0; remainder(4, 2) = 1; remainder(0, 0) = NO; remainder(-1, 0) = NO
        remainder(5, 0) = NO; remainder(38, 0) = NO; remainder(39, 0) = NO; remainder(MIN, 0) = NO
        remainder(MAX, 0) = NO; remainder(4, -1) = NO; remainder(4, 3) = NO; remainder(4, MIN) = NO
        remainder(4, MAX) = NO; remainder(5, 3) = NO; lay(38, 1) = 34; remainder(38, 0) = 0
        remainder(39, 0) = NO; spoil(38, -1) = 61; remainder(38, 0) = -7; remainder(38, 1) = 1
        remainder(38, 2) = 2; remainder(37, 0) = 0; spoil(0, 9) = 32; remainder(1, 0) = 9
        remainder(38, 0) = 2
        """,
        """
        # 24: n and j 38 at most together
        triangleAt(0, 0, 0) = 1; triangleAt(0, 0, 1) = 0; triangleAt(0, 0, 2) = 1; triangleAt(0, 38, 0) = 0
        triangleAt(0, 38, 1) = 1; triangleAt(0, 38, 2) = 39; triangleAt(38, 0, 0) = 488332318973593
        triangleAt(38, 0, 1) = 1; triangleAt(38, 0, 2) = 6; triangleAt(37, 1, 0) = -488332318973594
        triangleAt(37, 1, 1) = 5; triangleAt(37, 0, 0) = 0; triangleAt(19, 19, 0) = -8
        triangleAt(19, 19, 2) = 33296263; triangleAt(0, 39, 0) = NO; triangleAt(39, 0, 0) = NO
        triangleAt(38, 1, 0) = NO; triangleAt(1, 38, 0) = NO; triangleAt(19, 20, 0) = NO
        triangleAt(20, 19, 0) = NO; triangleAt(-1, 0, 0) = NO; triangleAt(-1, 39, 0) = NO
        triangleAt(-1, 38, 0) = NO; triangleAt(0, -1, 0) = NO; triangleAt(39, -1, 0) = NO
        triangleAt(38, -1, 0) = NO; triangleAt(MIN, 0, 0) = NO; triangleAt(MAX, 0, 0) = NO
        triangleAt(0, MIN, 0) = NO; triangleAt(0, MAX, 0) = NO; triangleAt(MAX, MAX, 0) = NO
        triangleAt(MAX, MIN, 0) = NO; triangleAt(MIN, MAX, 0) = NO; triangleAt(MIN, MIN, 0) = NO
        triangleAt(0, 0, -1) = NO; triangleAt(0, 0, 3) = NO; triangleAt(0, 0, MIN) = NO
        triangleAt(0, 0, MAX) = NO; triangleAt(1, 0, 0) = 0; triangleAt(1, 0, 1) = 1
        triangleAt(1, 0, 2) = 2
        """,
        """
        # 25: d below 1, none has it
        whichBelow(1) = -2; whichBelow(0) = NONE; whichBelow(-1) = NONE; whichBelow(-6) = NONE
        whichBelow(MIN) = NONE; whichBelow(MAX) = -2; whichBelow(2) = -2; whichBelow(5) = -2
        whichBelow(6) = 2; whichBelow(7) = -2; whichBelow(30) = 4; whichBelow(1919190) = 36
        whichBelow(1919191) = -2; whichBelow(510) = 16; whichBelow(66) = 10; lay(38, 1) = 39
        spoil(10, 1) = 61; whichBelow(11) = -2; whichBelow(66) = 10
        """,
        """
        # 26: the ends of p
        irregular(3) = 0; irregular(5) = 0; irregular(199) = 0; irregular(197) = 0; irregular(37) = 1
        irregular(157) = 2; irregular(2) = NONE; irregular(1) = NONE; irregular(0) = NONE
        irregular(-3) = NONE; irregular(4) = NONE; irregular(187) = NONE; irregular(200) = NONE
        irregular(201) = NONE; irregular(211) = NONE; irregular(MIN) = NONE; irregular(MAX) = NONE
        """,
        """
        # 27: the first, the last, one more
        pair(0, 0) = 37; pair(0, 1) = 32; pair(8, 0) = 157; pair(8, 1) = 110; pair(7, 0) = 157
        pair(7, 1) = 62; pair(9, 0) = -2; pair(9, 1) = -2; pair(MAX, 0) = -2; pair(-1, 0) = NONE
        pair(-1, 1) = NONE; pair(MIN, 0) = NONE; pair(0, -1) = NONE; pair(0, 2) = NONE; pair(0, MIN) = NONE
        pair(0, MAX) = NONE; pair(9, 2) = NONE; pair(9, -1) = NONE; pair(MAX, MAX) = NONE
        pair(-1, 2) = NONE
        """,
        """
        # 28: the first, the last, one more
        second(0) = 284; second(1) = 914; second(2) = 3292; second(3) = 5768; second(4) = 228
        second(5) = 12112; second(6) = 11082; second(7) = 6302; second(8) = 11498; second(9) = -2
        second(MAX) = -2; second(-1) = NONE; second(MIN) = NONE
        """,
        """
        # 29: the ends of n and p, which goes first
        far(2, 3) = -3; far(2, 5) = 1; far(2, 199) = 166; far(4, 5) = -3; far(1000000, 3) = -3
        far(1000000, 5) = -3; far(1000000, 7) = 6; far(1000000, 199) = 173; far(999998, 199) = 55
        far(999900, 199) = -3; far(198, 199) = -3; far(196, 199) = 63; far(200, 199) = 83; far(38, 199) = 83
        far(40, 199) = 9; far(0, 3) = NONE; far(0, 199) = NONE; far(1, 5) = NONE; far(3, 5) = NONE
        far(-2, 5) = NONE; far(-4, 5) = NONE; far(999999, 5) = NONE; far(1000001, 5) = NONE
        far(1000002, 5) = NONE; far(1000002, 3) = NONE; far(1000004, 5) = NONE; far(MIN, 5) = NONE
        far(MAX, 5) = NONE; far(2, 2) = NONE; far(2, 4) = NONE; far(8, 9) = NONE; far(2, 200) = NONE
        far(210, 211) = NONE; far(2, 1) = NONE; far(2, 0) = NONE; far(2, MIN) = NONE; far(2, MAX) = NONE
        """,
        """
        # 30: the ends of n, a, p
        voronoi(2, 1, 3) = 0; voronoi(2, 2, 3) = 2; voronoi(38, 1, 3) = 0; voronoi(38, 2, 3) = 2
        voronoi(2, 1, 199) = 0; voronoi(2, 198, 199) = 0; voronoi(38, 1, 199) = 0
        voronoi(38, 197, 199) = 96; voronoi(36, 2, 37) = 36; voronoi(2, 0, 3) = NONE
        voronoi(2, 3, 3) = NONE; voronoi(2, 199, 199) = NONE; voronoi(2, 0, 199) = NONE
        voronoi(2, -1, 199) = NONE; voronoi(2, MIN, 199) = NONE; voronoi(2, MAX, 199) = NONE
        voronoi(0, 1, 5) = NONE; voronoi(1, 1, 5) = NONE; voronoi(3, 1, 5) = NONE; voronoi(37, 1, 5) = NONE
        voronoi(39, 1, 5) = NONE; voronoi(40, 1, 5) = NONE; voronoi(-2, 1, 5) = NONE
        voronoi(MIN, 1, 5) = NONE; voronoi(MAX, 1, 5) = NONE; voronoi(2, 1, 2) = NONE
        voronoi(2, 1, 1) = NONE; voronoi(2, 1, 0) = NONE; voronoi(2, 1, 4) = NONE; voronoi(2, 1, 200) = NONE
        voronoi(2, 1, 211) = NONE; voronoi(2, 1, MIN) = NONE; voronoi(2, 1, MAX) = NONE
        """,
        """
        # 31: the ends of p, way, n
        byWay(3, 0, 0) = 1; byWay(3, 0, 1) = 1; byWay(3, 1, 1) = 1; byWay(3, 2, 1) = 1
        byWay(3, 0, 2) = NONE; byWay(3, 1, 2) = NONE; byWay(3, 2, 2) = NONE; byWay(3, 0, -1) = NONE
        byWay(199, 0, 0) = 1; byWay(199, 1, 0) = 1; byWay(199, 2, 0) = 1; byWay(199, 0, 196) = 63
        byWay(199, 1, 196) = 63; byWay(199, 2, 196) = 63; byWay(199, 0, 197) = 0; byWay(199, 1, 197) = 0
        byWay(199, 2, 197) = 0; byWay(199, 0, 198) = NONE; byWay(199, 1, 198) = NONE
        byWay(199, 2, 198) = NONE; byWay(199, 0, MIN) = NONE; byWay(199, 0, MAX) = NONE
        byWay(199, -1, 0) = NONE; byWay(199, 3, 0) = NONE; byWay(199, MIN, 0) = NONE
        byWay(199, MAX, 0) = NONE; byWay(2, 0, 0) = NONE; byWay(1, 0, 0) = NONE; byWay(4, 0, 0) = NONE
        byWay(200, 0, 0) = NONE; byWay(211, 0, 0) = NONE; byWay(MIN, 0, 0) = NONE; byWay(MAX, 0, 0) = NONE
        byWay(199, 0, 196) = 63
        # 31: the triangle, asked first of all
        byWay(3, 1, 1) = 1; byWay(7, 1, 5) = 0; byWay(7, 1, 4) = 3; byWay(7, 1, 0) = 1
        byWay(199, 1, 197) = 0; byWay(199, 1, 196) = 63; byWay(5, 1, 3) = 0; byWay(5, 1, 2) = 1
        # 31: the triangle behind the others
        byWay(199, 2, 196) = 63; byWay(11, 1, 9) = 0; byWay(11, 1, 8) = 4; byWay(199, 0, 196) = 63
        byWay(13, 1, 11) = 0; byWay(13, 1, 10) = 5
        """,
        """
        # 32: the ends of p and way
        nothings(3, 0) = 0; nothings(3, 1) = 0; nothings(3, 2) = 0; nothings(5, 0) = 0; nothings(199, 0) = 0
        nothings(199, 1) = 0; nothings(199, 2) = 0; nothings(157, 0) = 2; nothings(157, 1) = 2
        nothings(157, 2) = 2; nothings(3, -1) = NONE; nothings(3, 3) = NONE; nothings(3, MIN) = NONE
        nothings(3, MAX) = NONE; nothings(2, 0) = NONE; nothings(1, 0) = NONE; nothings(9, 0) = NONE
        nothings(200, 0) = NONE; nothings(211, 0) = NONE; nothings(MIN, 0) = NONE; nothings(MAX, 0) = NONE
        """,
        """
        # 33: the ends of p
        harmonic(5) = 3; harmonic(7) = 6; harmonic(197) = 39; harmonic(199) = 178; harmonic(3) = NONE
        harmonic(4) = NONE; harmonic(2) = NONE; harmonic(1) = NONE; harmonic(0) = NONE; harmonic(-5) = NONE
        harmonic(25) = NONE; harmonic(200) = NONE; harmonic(211) = NONE; harmonic(MIN) = NONE
        harmonic(MAX) = NONE
        """,
        """
        # 34: the ends of p
        wilson(3) = 1; wilson(5) = 0; wilson(7) = 5; wilson(197) = 147; wilson(199) = 118; wilson(2) = NONE
        wilson(4) = NONE; wilson(1) = NONE; wilson(0) = NONE; wilson(-3) = NONE; wilson(200) = NONE
        wilson(211) = NONE; wilson(MIN) = NONE; wilson(MAX) = NONE
        """,
        """
        # 35: the ends of p
        classNumber(7) = 1; classNumber(11) = 1; classNumber(191) = 13; classNumber(199) = 9
        classNumber(3) = NONE; classNumber(5) = NONE; classNumber(13) = NONE; classNumber(197) = NONE
        classNumber(15) = NONE; classNumber(195) = NONE; classNumber(203) = NONE; classNumber(211) = NONE
        classNumber(2) = NONE; classNumber(-1) = NONE; classNumber(MIN) = NONE; classNumber(MAX) = NONE
        # 35: beside the ends
        classNumber(6) = NONE; classNumber(200) = NONE; classNumber(0) = NONE; classNumber(199) = 9
        """,
        """
        # 36: the ends of p, n, what
        quadratic(3, 1, 0) = -1; quadratic(3, 1, 1) = 2; quadratic(3, 1, 2) = 3; quadratic(3, 4, 0) = 0
        quadratic(3, 4, 2) = 1; quadratic(3, 3, 0) = 0; quadratic(3, 3, 1) = 2; quadratic(199, 1, 0) = -9
        quadratic(199, 4, 0) = 0; quadratic(199, 3, 0) = 30096; quadratic(197, 4, 0) = -3068584
        quadratic(197, 1, 0) = 0; quadratic(3, 0, 0) = NO; quadratic(3, 5, 0) = NO; quadratic(3, -1, 0) = NO
        quadratic(3, MIN, 0) = NO; quadratic(3, MAX, 0) = NO; quadratic(3, 1, -1) = NO
        quadratic(3, 1, 3) = NO; quadratic(3, 1, MIN) = NO; quadratic(3, 1, MAX) = NO
        quadratic(2, 1, 0) = NO; quadratic(1, 1, 0) = NO; quadratic(9, 1, 0) = NO; quadratic(200, 1, 0) = NO
        quadratic(211, 1, 0) = NO; quadratic(MIN, 1, 0) = NO; quadratic(MAX, 1, 0) = NO; lay(4, 1) = 5
        spoil(2, 3) = 37; quadratic(5, 2, 0) = 0; quadratic(5, 2, 1) = 4; quadratic(5, 2, 2) = 5
        """,
        """
        # 37: the ends of n
        regulars(3) = 1; regulars(4) = 1; regulars(5) = 2; regulars(36) = 10; regulars(37) = 10
        regulars(38) = 10; regulars(41) = 11; regulars(198) = 36; regulars(199) = 37; regulars(2) = NONE
        regulars(200) = NONE; regulars(0) = NONE; regulars(-3) = NONE; regulars(MIN) = NONE
        regulars(MAX) = NONE
        """,
        """
        # 38: the ends of m, j, what
        lay(24, 1) = 25; coefficient(0, 0, 0) = 0; coefficient(0, 0, 1) = 1; coefficient(0, 1, 0) = 1
        coefficient(0, 1, 1) = 1; coefficient(0, 2, 0) = NO; coefficient(0, -1, 0) = NO
        coefficient(24, 0, 0) = 0; coefficient(24, 0, 1) = 1; coefficient(24, 1, 0) = -236364091
        coefficient(24, 1, 1) = 2730; coefficient(24, 25, 0) = 1; coefficient(24, 25, 1) = 25
        coefficient(24, 26, 0) = NO; coefficient(24, -1, 0) = NO; coefficient(24, MIN, 0) = NO
        coefficient(24, MAX, 0) = NO; coefficient(25, 0, 0) = NO; coefficient(25, 1, 0) = NO
        coefficient(-1, 0, 0) = NO; coefficient(MIN, 0, 0) = NO; coefficient(MAX, 0, 0) = NO
        coefficient(1, 1, -1) = NO; coefficient(1, 1, 2) = NO; coefficient(1, 1, MIN) = NO
        coefficient(1, 1, MAX) = NO; coefficient(1, 0, 2) = NO; coefficient(1, 0, -1) = NO
        coefficient(3, 1, 0) = 0; coefficient(3, 1, 1) = 1
        # 38: not laid: the last of these; which goes first
        lay(4, 1) = 5; coefficient(4, 1, 0) = -1; coefficient(4, 1, 1) = 30; coefficient(5, 6, 0) = -2
        coefficient(5, 6, 1) = -2; coefficient(5, 1, 0) = -2; coefficient(5, 0, 0) = -2
        coefficient(5, 0, 1) = -2; coefficient(24, 25, 0) = -2; coefficient(5, 7, 0) = NO
        coefficient(5, -1, 0) = NO; coefficient(5, 1, 2) = NO; coefficient(5, 1, -1) = NO
        coefficient(25, 1, 0) = NO; coefficient(-1, 0, 0) = NO
        # 38: as they stand: below the line above 0, 0 by 1, ENTRY 1 and 1
        lay(24, 1) = 25; spoil(1, 1) = 7; coefficient(2, 2, 0) = 1; coefficient(2, 2, 1) = 1
        spoil(1, -1) = 5; coefficient(2, 2, 0) = 0; coefficient(2, 2, 1) = 1; spoil(1, -1) = 5
        coefficient(2, 2, 0) = -1; coefficient(2, 2, 1) = 1; spoil(24, 1) = 45
        coefficient(24, 1, 0) = -7878803; coefficient(24, 1, 1) = 91; spoil(0, -9) = 34
        coefficient(24, 25, 0) = -8; coefficient(24, 25, 1) = 25
        """,
        """
        # 39: the ends of m and N
        lay(24, 1) = 25; sum(0, 0) = 0; sum(0, 1) = 1; sum(0, 1000000000) = 1000000000; sum(24, 0) = 0
        sum(24, 1) = 1; sum(24, 1000000000) = 67842074; sum(24, 999999999) = 570037953
        sum(1, 1000000000) = 21; sum(0, 1000000001) = NONE; sum(24, 1000000001) = NONE; sum(0, -1) = NONE
        sum(24, -1) = NONE; sum(0, MIN) = NONE; sum(0, MAX) = NONE; sum(-1, 0) = NONE; sum(25, 0) = NONE
        sum(MIN, 0) = NONE; sum(MAX, 0) = NONE
        # 39: not laid, which goes first; as they stand
        lay(4, 1) = 5; sum(4, 2) = 17; sum(5, 2) = -2; sum(5, 0) = -2; sum(24, 1000000000) = -2
        sum(5, -1) = NONE; sum(5, 1000000001) = NONE; sum(25, 1) = NONE; sum(-1, 1) = NONE
        spoil(0, -9) = 34; sum(0, 1) = 999999999; sum(0, 0) = 0; spoil(4, 1) = 39; sum(4, 1) = 633333337
        sum(3, 1) = 750000004
        """,
        """
        # 40: the ends of m and N
        digits(0, 0) = 1; digits(24, 0) = 1; digits(0, 1) = 1; digits(24, 1) = 1; digits(0, 9) = 1
        digits(0, 10) = 2; digits(0, 999999999) = 9; digits(0, 1000000000) = 10; digits(1, 4) = 2
        digits(1, 3) = 1; digits(24, 2) = 8; digits(24, 1000000000) = 224; digits(24, 999999999) = 224
        digits(0, -1) = NONE; digits(24, -1) = NONE; digits(0, 1000000001) = NONE
        digits(24, 1000000001) = NONE; digits(0, MIN) = NONE; digits(0, MAX) = NONE; digits(-1, 0) = NONE
        digits(25, 0) = NONE; digits(MIN, 1) = NONE; digits(MAX, 1) = NONE; lay(24, 1) = 25
        spoil(0, 9) = 32; digits(0, 9) = 1
        """,
        """
        # 41: the ends of i, m, N; which goes first
        digit(0, 0, 0) = 0; digit(0, 0, 1) = -2; digit(0, 0, -1) = NONE; digit(0, 0, MAX) = -2
        digit(0, 0, MIN) = NONE; digit(24, 0, 0) = 0; digit(24, 0, 1) = -2; digit(0, 1000000000, 0) = 1
        digit(0, 1000000000, 9) = 0; digit(0, 1000000000, 10) = -2; digit(0, 1000000000, -1) = NONE
        digit(24, 1000000000, 0) = 4; digit(24, 1000000000, 1) = 0; digit(24, 1000000000, 223) = 0
        digit(24, 1000000000, 224) = -2; digit(24, 999999999, 0) = 3; digit(24, 999999999, 222) = 0
        digit(24, 999999999, 223) = 0; digit(24, 1000000001, 0) = NONE; digit(24, 1000000001, 999) = NONE
        digit(24, -1, 0) = NONE; digit(24, -1, 999) = NONE; digit(25, 0, 0) = NONE; digit(25, 0, 999) = NONE
        digit(-1, 0, 0) = NONE; digit(-1, 0, 999) = NONE; digit(MIN, 0, 0) = NONE; digit(MAX, 0, 0) = NONE
        digit(0, MIN, 0) = NONE; digit(0, MAX, 0) = NONE
        # 41: digits from the left
        digit(1, 4, 0) = 1; digit(1, 4, 1) = 0; digit(1, 4, 2) = -2; digit(2, 10, 0) = 3
        digit(2, 10, 1) = 8; digit(2, 10, 2) = 5; digit(2, 10, 3) = -2; digit(24, 2, 0) = 1
        digit(24, 2, 1) = 6; digit(24, 2, 6) = 1; digit(24, 2, 7) = 7; digit(24, 2, 8) = -2
        digit(24, 123456789, 0) = 7; digit(24, 123456789, 100) = 4; digit(24, 123456789, 199) = 0
        digit(24, 123456789, 200) = 7; digits(24, 123456789) = 201
        """,
        """
        # 42: the ends of m, a, d, N
        lay(24, 1) = 25; progression(0, 0, 1, 0) = 0; progression(0, 0, 1, 1) = 1
        progression(1, 0, 1, 1) = 0; progression(24, 0, 1, 1) = 0; progression(24, 0, 1, 2) = 1
        progression(0, 1000, 1000, 1000000000) = 1000000000
        progression(24, 1000, 1000, 1000000000) = 53299602; progression(24, 0, 1, 1000000000) = 570037953
        progression(24, 1000, 1000, 0) = 0; progression(24, 1000, 1, 1) = 5764801
        progression(1, 1000, 1000, 2) = 3000; progression(25, 0, 1, 1) = NONE
        progression(-1, 0, 1, 1) = NONE; progression(MIN, 0, 1, 1) = NONE; progression(MAX, 0, 1, 1) = NONE
        progression(1, -1, 1, 1) = NONE; progression(1, 1001, 1, 1) = NONE; progression(1, MIN, 1, 1) = NONE
        progression(1, MAX, 1, 1) = NONE; progression(1, 0, 0, 1) = NONE; progression(1, 0, -1, 1) = NONE
        progression(1, 0, 1001, 1) = NONE; progression(1, 0, MIN, 1) = NONE
        progression(1, 0, MAX, 1) = NONE; progression(1, 0, 1, -1) = NONE
        progression(1, 0, 1, 1000000001) = NONE; progression(1, 0, 1, MIN) = NONE
        progression(1, 0, 1, MAX) = NONE; progression(0, 0, 0, 0) = NONE; progression(0, 1001, 1, 0) = NONE
        # 42: not laid, which goes first; none; as they stand
        lay(4, 1) = 5; progression(4, 1, 1, 2) = 17; progression(5, 1, 1, 2) = -2
        progression(5, 1, 1, 0) = -2; progression(24, 1000, 1000, 1000000000) = -2
        progression(5, -1, 1, 1) = NONE; progression(5, 1001, 1, 1) = NONE; progression(5, 1, 0, 1) = NONE
        progression(5, 1, 1001, 1) = NONE; progression(5, 1, 1, -1) = NONE
        progression(5, 1, 1, 1000000001) = NONE; progression(25, 1, 1, 1) = NONE; spoil(4, 1) = 39
        progression(4, 1, 1, 1) = 1; progression(4, 1, 1, 2) = 233333352; progression(4, 1, 1, 0) = 0
        spoil(0, 5) = 32; progression(0, 7, 7, 3) = 3; progression(1, 1, 1, 0) = 0
        progression(1, 1, 1, 3) = 16
        """,
        """
        # 43: the ends of m, j, what
        lay(15, 1) = 16; triangular(1, 1, 0) = 1; triangular(1, 1, 1) = 1; triangular(1, 2, 0) = NO
        triangular(1, 0, 0) = NO; triangular(15, 1, 0) = 0; triangular(15, 1, 1) = 1
        triangular(15, 8, 0) = 16; triangular(15, 8, 1) = 1; triangular(15, 9, 0) = NO
        triangular(15, 0, 0) = NO; triangular(15, -1, 0) = NO; triangular(15, MIN, 0) = NO
        triangular(15, MAX, 0) = NO; triangular(0, 1, 0) = NO; triangular(2, 1, 0) = NO
        triangular(14, 1, 0) = NO; triangular(16, 1, 0) = NO; triangular(17, 1, 0) = NO
        triangular(-1, 0, 0) = NO; triangular(-1, 1, 0) = NO; triangular(-3, 1, 0) = NO
        triangular(MIN, 1, 0) = NO; triangular(MAX, 1, 0) = NO; triangular(3, 1, -1) = NO
        triangular(3, 1, 2) = NO; triangular(3, 1, MIN) = NO; triangular(3, 1, MAX) = NO
        # 43: not laid, there is none: which goes first
        lay(4, 1) = 5; triangular(3, 2, 0) = 1; triangular(5, 1, 0) = -2; triangular(5, 3, 1) = -2
        triangular(15, 8, 0) = -2; triangular(5, 4, 0) = NO; triangular(5, 0, 0) = NO
        triangular(6, 1, 0) = NO; triangular(5, 1, 2) = NO; triangular(17, 1, 0) = NO; spoil(3, 1) = 6
        triangular(3, 2, 0) = -3; triangular(3, 1, 1) = -3; triangular(3, 3, 0) = NO
        triangular(3, 0, 0) = NO; triangular(3, 1, 2) = NO; triangular(3, 1, -1) = NO
        triangular(4, 1, 0) = NO; triangular(5, 1, 0) = -2; triangular(1, 1, 0) = 1; spoil(4, 1) = 39
        triangular(3, 1, 0) = -3; relay(3, 1) = 1; triangular(3, 2, 0) = 1
        # 43: ENTRIES that are SPOILT, and it can be all the same
        lay(15, 1) = 16; spoil(0, 1) = 32; triangular(1, 1, 0) = -3; spoil(1, 1) = 7
        triangular(1, 1, 0) = 2; triangular(1, 1, 1) = 1; triangular(3, 1, 0) = -3; relay(0, 1) = 1
        relay(1, 1) = 1; spoil(2, 1) = 37; triangular(1, 1, 0) = 1; triangular(3, 2, 0) = -3
        spoil(15, 1) = 6; triangular(13, 7, 0) = -3; relay(2, 1) = 1; triangular(13, 7, 0) = 64
        triangular(15, 8, 0) = -3; relay(15, 1) = 1; spoil(14, 1) = 61; triangular(15, 8, 0) = -3
        triangular(15, 2, 1) = -3; triangular(13, 7, 0) = 64
        """,
        """
        # 44: the ends of n, k, what
        lay(38, 1) = 39; poly(0, 0, 0) = 1; poly(0, 0, 1) = 0; poly(0, 0, 2) = 1; poly(0, 1, 0) = NO
        poly(0, -1, 0) = NO; poly(38, 0, 0) = 488332318973593; poly(38, 0, 1) = 1; poly(38, 0, 2) = 6
        poly(38, 38, 0) = 1; poly(38, 37, 0) = -19; poly(38, 39, 0) = NO; poly(38, -1, 0) = NO
        poly(38, MIN, 0) = NO; poly(38, MAX, 0) = NO; poly(39, 39, 0) = NO; poly(39, 1, 0) = NO
        poly(-1, 0, 0) = NO; poly(-1, -1, 0) = NO; poly(MIN, 0, 0) = NO; poly(MAX, 0, 0) = NO
        poly(MIN, MIN, 0) = NO; poly(MAX, MAX, 0) = NO; poly(2, 1, -1) = NO; poly(2, 1, 3) = NO
        poly(2, 1, MIN) = NO; poly(2, 1, MAX) = NO
        # 44: ENTRY (n less k) alone need be laid
        poly(38, 38, 0) = NO; lay(4, 1) = 5; poly(38, 38, 0) = 1; poly(38, 34, 0) = -2461
        poly(38, 34, 1) = 1; poly(38, 34, 2) = 2; poly(38, 33, 0) = NO; poly(4, 0, 0) = -1
        poly(5, 0, 0) = NO; poly(5, 1, 0) = -1; poly(38, 0, 0) = NO; poly(39, 38, 0) = NO; spoil(0, -1) = 34
        poly(38, 38, 0) = 0; poly(38, 38, 2) = 1
        """,
        """
        # 45: the ends of n, a, b, what
        lay(10, 1) = 11; value(0, -9, 1, 0) = 1; value(0, 9, 6, 2) = 1; value(10, 9, 1, 0) = 1868844960
        value(10, -9, 1, 0) = 5743049850; value(10, -9, 1, 1) = 5; value(10, -9, 1, 2) = 66
        value(10, 9, 6, 0) = -1; value(10, 9, 6, 1) = 31897; value(10, 9, 6, 2) = 33792
        value(10, -9, 6, 0) = 384; value(10, 0, 1, 1) = 5; value(10, 0, 6, 1) = 5; value(10, 6, 6, 1) = 5
        value(11, 0, 1, 0) = NO; value(-1, 0, 1, 0) = NO; value(MIN, 0, 1, 0) = NO; value(MAX, 0, 1, 0) = NO
        value(1, -10, 1, 0) = NO; value(1, 10, 1, 0) = NO; value(1, MIN, 1, 0) = NO
        value(1, MAX, 1, 0) = NO; value(1, 1, 0, 0) = NO; value(1, 1, -1, 0) = NO; value(1, 1, 7, 0) = NO
        value(1, 1, MIN, 0) = NO; value(1, 1, MAX, 0) = NO; value(1, 1, 1, -1) = NO; value(1, 1, 1, 3) = NO
        value(1, 1, 1, MIN) = NO; value(1, 1, 1, MAX) = NO
        # 45: not laid: all of 0 to n are needed
        value(0, 0, 1, 0) = NO; lay(4, 1) = 5; value(4, 0, 1, 0) = -1; value(4, 0, 1, 1) = 29
        value(5, 0, 1, 0) = NO; value(5, 9, 6, 2) = NO; value(10, 0, 1, 0) = NO; spoil(4, 1) = 39
        value(4, 0, 1, 0) = 0; value(4, 0, 1, 2) = 1; value(3, 1, 2, 0) = 0
        # 45: n 11, though all is laid
        lay(38, 1) = 39; value(10, 1, 1, 1) = 5; value(11, 0, 1, 0) = NO; value(11, 9, 6, 2) = NO
        value(38, 0, 1, 0) = NO
        """,
        """
        # 46: the ends of n, x, p
        lay(38, 1) = 39; at(0, 0, 3) = 1; at(0, 2, 3) = 1; at(0, 3, 3) = NONE; at(0, -1, 3) = NONE
        at(0, 198, 199) = 1; at(0, 199, 199) = NONE; at(0, MIN, 199) = NONE; at(0, MAX, 199) = NONE
        at(38, 0, 199) = 83; at(38, 198, 199) = 121; at(39, 0, 199) = NONE; at(-1, 0, 199) = NONE
        at(MIN, 0, 199) = NONE; at(MAX, 0, 199) = NONE; at(0, 0, 2) = NONE; at(0, 0, 1) = NONE
        at(0, 0, 0) = NONE; at(0, 0, 4) = NONE; at(0, 0, 200) = NONE; at(0, 0, 211) = NONE
        at(0, 0, MIN) = NONE; at(0, 0, MAX) = NONE; at(1, 0, 3) = 1; at(2, 0, 3) = -3; at(3, 0, 3) = -3
        at(38, 0, 37) = -3; at(35, 0, 37) = 0; at(36, 0, 37) = -3; at(38, 0, 41) = 31; at(2, 3, 3) = NONE
        at(2, -1, 3) = NONE; at(39, 0, 3) = NONE; at(4, 0, 6) = NONE
        # 46: not laid, p divides a BELOW: which goes first
        at(0, 0, 3) = -2; at(0, 3, 3) = NONE; lay(4, 1) = 5; at(4, 0, 7) = 3; at(4, 0, 5) = -3
        at(5, 0, 5) = -2; at(5, 0, 3) = -2; at(38, 0, 3) = -2; at(5, 5, 5) = NONE; at(5, -1, 5) = NONE
        at(5, 0, 4) = NONE; at(4, 5, 5) = NONE; at(39, 0, 5) = NONE; spoil(4, 1) = 39; at(4, 0, 5) = 0
        at(4, 0, 3) = -3; spoil(2, 1) = 37; at(4, 0, 3) = -3; spoil(2, -1) = 39; at(4, 0, 3) = 0
        """,
        """
        # 47: the ends of n and p
        lay(38, 1) = 39; roots(0, 3) = 0; roots(0, 199) = 0; roots(1, 3) = 1; roots(1, 199) = 1
        roots(38, 199) = 0; roots(38, 41) = 2; roots(39, 199) = NONE; roots(-1, 199) = NONE
        roots(MIN, 3) = NONE; roots(MAX, 3) = NONE; roots(0, 2) = NONE; roots(0, 1) = NONE
        roots(0, 0) = NONE; roots(0, 4) = NONE; roots(0, 200) = NONE; roots(0, 211) = NONE
        roots(0, MIN) = NONE; roots(0, MAX) = NONE; roots(2, 3) = -3; roots(3, 3) = -3; roots(38, 37) = -3
        roots(35, 37) = 5; roots(39, 3) = NONE; roots(4, 6) = NONE
        # 47: not laid, p divides a BELOW: which goes first
        roots(0, 3) = -2; roots(0, 4) = NONE; lay(4, 1) = 5; roots(4, 5) = -3; roots(5, 5) = -2
        roots(5, 3) = -2; roots(38, 3) = -2; roots(5, 4) = NONE; roots(5, 6) = NONE; roots(39, 5) = NONE
        roots(3, 5) = 3; spoil(4, 1) = 39; roots(4, 5) = 2; spoil(0, -1) = 34; roots(0, 3) = 3
        roots(0, 199) = 199
        """,
        """
        # 48: the ends of n and what; not laid
        zeta(0, 0) = NO; lay(0, 1) = 1; zeta(0, 0) = NO; lay(1, 1) = 1; zeta(0, 0) = -1; zeta(0, 1) = 1
        zeta(0, 2) = 2; zeta(1, 0) = NO; lay(37, 1) = 36; zeta(36, 0) = 0; zeta(36, 2) = 1; zeta(37, 0) = NO
        lay(38, 1) = 1; zeta(37, 0) = -12850850499306; zeta(37, 1) = 11; zeta(37, 2) = 12; zeta(38, 0) = NO
        zeta(-1, 0) = NO; zeta(MIN, 0) = NO; zeta(MAX, 0) = NO; zeta(1, -1) = NO; zeta(1, 3) = NO
        zeta(1, MIN) = NO; zeta(1, MAX) = NO; zeta(38, 3) = NO; spoil(1, 1) = 7; zeta(0, 0) = 0
        zeta(0, 2) = 1; spoil(2, -1) = 39; zeta(1, 0) = 0; zeta(1, 2) = 1; spoil(2, -2) = 39; zeta(1, 0) = 1
        """,
        """
        # 49: the ends of n; not laid
        genocchi(0) = NO; lay(0, 1) = 1; genocchi(0) = 0; genocchi(1) = NO; lay(19, 1) = 19; genocchi(1) = 1
        genocchi(19) = 0; genocchi(20) = NO; lay(38, 1) = 19; genocchi(20) = 1109652905; genocchi(21) = NO
        genocchi(22) = NO; genocchi(-1) = NO; genocchi(MIN) = NO; genocchi(MAX) = NO; spoil(0, 9) = 32
        genocchi(0) = 0; spoil(19, 9) = 6; genocchi(19) = -9437166; spoil(20, -9) = 45
        genocchi(20) = 1109710100
        """,
        """
        # 50: the ends of n and k; more than 9223372036854775807
        onto(0, 0) = 1; onto(0, 1) = 0; onto(0, 30) = 0; onto(1, 0) = 0; onto(30, 0) = 0; onto(30, 1) = 1
        onto(30, 2) = 1073741822; onto(1, 30) = 0; onto(29, 30) = 0; onto(30, 30) = NO
        onto(20, 20) = 2432902008176640000; onto(21, 21) = NO; onto(20, 19) = NO
        onto(19, 19) = 121645100408832000; onto(18, 15) = 480178027929600000
        onto(18, 18) = 6402373705728000; onto(19, 11) = 5165761531919788800; onto(19, 12) = NO
        onto(19, 13) = NO; onto(19, 17) = 4480594531725312000; onto(27, 5) = 7360584859009090800
        onto(28, 5) = NO; onto(30, 4) = 1152097946520919320; onto(30, 5) = NO; onto(30, 29) = NO
        onto(31, 1) = NO; onto(31, 0) = NO; onto(0, 31) = NO; onto(30, 31) = NO; onto(-1, 0) = NO
        onto(0, -1) = NO; onto(-1, -1) = NO; onto(MIN, 0) = NO; onto(MAX, 0) = NO; onto(0, MIN) = NO
        onto(0, MAX) = NO
        """,
        """
        # 51: the ends of n and what; an ONTO that is more
        byBoxes(0, 0) = 1; byBoxes(0, 1) = 0; byBoxes(0, 2) = 1; byBoxes(1, 0) = -1; byBoxes(1, 1) = 1
        byBoxes(1, 2) = 2; byBoxes(18, 0) = 54; byBoxes(18, 1) = 775; byBoxes(18, 2) = 798
        byBoxes(19, 0) = NO; byBoxes(19, 2) = NO; byBoxes(20, 0) = NO; byBoxes(21, 0) = NO
        byBoxes(-1, 0) = NO; byBoxes(MIN, 0) = NO; byBoxes(MAX, 0) = NO; byBoxes(0, -1) = NO
        byBoxes(0, 3) = NO; byBoxes(0, MIN) = NO; byBoxes(0, MAX) = NO; byBoxes(19, 3) = NO
        """,
        """
        # 52: the ends of n
        zigzag(0) = 1; zigzag(1) = 1; zigzag(2) = 1; zigzag(22) = 69348874393137901
        zigzag(23) = 1015423886506852352; zigzag(24) = NO; zigzag(-1) = NO; zigzag(MIN) = NO
        zigzag(MAX) = NO
        """,
        """
        # 53: the ends of n; not laid; no whole number
        tangent(2) = NO; lay(21, 1) = 22; tangent(2) = 1; tangent(20) = 29088885112832; tangent(22) = NO
        lay(22, 1) = 1; tangent(22) = 4951498053124096; tangent(24) = NO; tangent(23) = NO; tangent(0) = NO
        tangent(1) = NO; tangent(3) = NO; tangent(21) = NO; tangent(-2) = NO; tangent(MIN) = NO
        tangent(MAX) = NO; lay(24, 1) = 2; tangent(24) = NO; spoil(10, 1) = 61; tangent(10) = NO
        spoil(2, -1) = 39; tangent(2) = 0; spoil(2, -1) = 39; tangent(2) = 6; spoil(22, 1) = 61
        tangent(22) = NO; spoil(4, -1) = 37; tangent(4) = 4
        """,
        """
        # 54: the ends of n; not laid, which goes first; 0 of it
        growth(4) = -2; growth(2) = NONE; growth(40) = NONE; lay(3, 1) = 4; growth(4) = -2; growth(3) = NONE
        growth(2) = NONE; growth(0) = NONE; lay(4, 1) = 1; growth(4) = 0; growth(5) = NONE; growth(6) = -2
        growth(38) = -2; growth(37) = NONE; growth(39) = NONE; growth(40) = NONE; growth(-4) = NONE
        growth(MIN) = NONE; growth(MAX) = NONE; lay(38, 1) = 34; growth(6) = 0; growth(38) = 35
        growth(36) = 31; growth(39) = NONE; growth(40) = NONE; spoil(2, 9) = 37; growth(4) = 1
        spoil(2, -9) = 39; growth(4) = 0; spoil(2, 1) = 39; number(2, 0) = -1; growth(4) = 1
        spoil(4, -9) = 37; growth(6) = 0; spoil(16, 9) = 45; growth(16) = 8; growth(18) = 6
        # 54: odd ones and what is beyond, nothing laid
        growth(5) = NONE; growth(3) = NONE; growth(39) = NONE; growth(-2) = NONE; growth(36) = -2
        """,
        """
        # 55: the ends of what
        count(-1) = NONE; count(4) = NONE; count(MIN) = NONE; count(MAX) = NONE; count(0) = -1; count(1) = 0
        count(2) = 0; count(3) = 0; lay(0, 0) = 1; count(0) = 0; lay(38, 1) = 38; count(0) = 38
        count(1) = 0; residue(0, 5) = 1; residue(38, 5) = 4; count(2) = 2; spoil(0, 5) = 32; count(1) = 1
        count(3) = 0; spoil(38, 1) = 61; count(1) = 2; count(3) = 1; count(4) = NONE; count(-1) = NONE
        residue(38, 5) = 0; count(3) = 0; heal(63) = 2; count(1) = 0; count(3) = 1
        """
    };
}
