import java.util.NoSuchElementException;

/** Of each promise of the document: ordinary calls, the edges that it names, and wrong inputs. */
public final class PromiseTests {
    private static final long NO = Long.MIN_VALUE;
    private static final int LOW = Integer.MIN_VALUE;
    private static final int HIGH = Integer.MAX_VALUE;
    private static int promise = 0;
    private static int wrong = 0;
    private static int asked = 0;

    public static void main(String[] args) {
        theTable();
        residues();
        theTests();
        primes();
        sums();
        polynomials();
        numbersAkin();
        System.out.println(asked + " answers asked for, " + wrong + " wrong");
        if (wrong != 0) {
            System.exit(1);
        }
    }

    private static void due(String call, long got, long want) {
        asked++;
        if (got != want) {
            wrong++;
            System.out.println("promise " + promise + ": " + call + " answered " + got + ", due is " + want);
        }
    }

    private static void duePart(String call, BernoulliWays x, int n, long whole, long above, long below) {
        due(call + " whole", x.number(n, 0), whole);
        due(call + " above", x.number(n, 1), above);
        due(call + " below", x.number(n, 2), below);
    }

    private static BernoulliWays laid(int n) {
        BernoulliWays x = new BernoulliWays();
        x.lay(n, 1);
        return x;
    }

    private static boolean numberThrows(BernoulliWays x, int n, int what) {
        try {
            x.number(n, what);
            return false;
        } catch (NoSuchElementException expected) {
            return true;
        }
    }

    // ---- promises 1 to 11 ------------------------------------------------------------------

    private static void theTable() {
        promise = 1;
        BernoulliWays x = new BernoulliWays();
        due("NONE", BernoulliWays.NONE, -1);
        due("count(0)", x.count(0), -1);
        due("count(2)", x.count(2), 0);
        due("way(0)", x.way(0), -2);
        due("suspects(63)", x.suspects(63), 0);

        promise = 2;
        due("lay(-1, 0)", x.lay(-1, 0), -1);
        due("lay(39, 1)", x.lay(39, 1), -1);
        due("lay(3, -1)", x.lay(3, -1), -1);
        due("lay(3, 3)", x.lay(3, 3), -1);
        due("count(0) then", x.count(0), -1);
        due("lay(0, 0)", x.lay(0, 0), 1);
        due("lay(0, 0) again", x.lay(0, 0), 0);
        due("lay(12, 0)", x.lay(12, 0), 12);
        due("lay(3, 2)", x.lay(3, 2), 0);
        due("lay(36, 2)", x.lay(36, 2), 24);
        due("lay(38, 1)", x.lay(38, 1), 2);
        due("count(0) at last", x.count(0), 38);
        due("count(1) at last", x.count(1), 0);
        for (int way = 0; way <= 2; way++) {
            BernoulliWays all = new BernoulliWays();
            due("lay(38, " + way + ")", all.lay(38, way), 39);
            duePart("number(0)", all, 0, 1, 0, 1);
            duePart("number(1)", all, 1, -1, 1, 2);
            duePart("number(2)", all, 2, 0, 1, 6);
            duePart("number(3)", all, 3, 0, 0, 1);
            duePart("number(4)", all, 4, -1, 29, 30);
            duePart("number(12)", all, 12, -1, 2039, 2730);
            duePart("number(36)", all, 36, -13711655205089L, 1280537, 1919190);
            duePart("number(37)", all, 37, 0, 0, 1);
            duePart("number(38)", all, 38, 488332318973593L, 1, 6);
        }
        x = laid(5);
        x.spoil(5, 1);
        due("lay(6, 0) with a spoilt one", x.lay(6, 0), -3);
        due("lay(2, 0) with a spoilt one", x.lay(2, 0), -3);
        due("lay(39, 0) with a spoilt one", x.lay(39, 0), -1);
        due("count(0) as it was", x.count(0), 5);
        due("lay(6, 2) with a spoilt one", x.lay(6, 2), 1);
        due("lay(7, 1) with a spoilt one", x.lay(7, 1), 1);

        promise = 3;
        x = laid(10);
        due("relay(4, 0)", x.relay(4, 0), 0);
        due("way(4)", x.way(4), 0);
        x.spoil(4, 3);
        due("relay(6, 0)", x.relay(6, 0), -3);
        due("way(6)", x.way(6), 1);
        due("relay(6, 2)", x.relay(6, 2), 0);
        due("relay(4, 0) of a spoilt one", x.relay(4, 0), 1);
        due("right(4)", x.right(4), 1);
        due("relay(11, 0)", x.relay(11, 0), -2);
        due("relay(39, 0)", x.relay(39, 0), -1);
        due("relay(-1, 0)", x.relay(-1, 0), -1);
        due("relay(11, 3)", x.relay(11, 3), -1);
        due("relay(0, -1)", x.relay(0, -1), -1);
        x.spoil(0, 1);
        due("relay(11, 0) with a spoilt one", x.relay(11, 0), -2);
        due("relay(0, 0)", x.relay(0, 0), 1);

        promise = 4;
        x = laid(38);
        due("spoil(2, 1)", x.spoil(2, 1), 1 + 4 + 32);
        duePart("number(2)", x, 2, 0, 1, 3);
        due("spoil(2, -1)", x.spoil(2, -1), 1 + 2 + 4 + 32);
        duePart("number(2) then", x, 2, 0, 0, 1);
        due("spoil(2, -9)", x.spoil(2, -9), 1 + 2 + 4 + 32);
        duePart("number(2) at last", x, 2, -9, 0, 1);
        x = laid(38);
        due("spoil(10, 1)", x.spoil(10, 1), 1 + 4 + 8 + 16 + 32);
        duePart("number(10)", x, 10, 0, 1, 11);
        due("spoil(0, 9)", x.spoil(0, 9), 32);
        due("spoil(0, -9)", x.spoil(0, -9), 0);
        due("way(0)", x.way(0), 3);
        due("right(0)", x.right(0), 1);
        due("spoil(1, 1)", x.spoil(1, 1), 1 + 2 + 4);
        due("spoil(0, 0)", x.spoil(0, 0), -1);
        due("spoil(0, 10)", x.spoil(0, 10), -1);
        due("spoil(0, -10)", x.spoil(0, -10), -1);
        due("spoil(39, 1)", x.spoil(39, 1), -1);
        due("spoil(-1, 1)", x.spoil(-1, 1), -1);
        due("spoil(5, 1), not laid", laid(4).spoil(5, 1), -2);
        due("spoil(5, 0), not laid", laid(4).spoil(5, 0), -1);

        promise = 5;
        x = laid(20);
        due("heal(63)", x.heal(63), 0);
        x.lay(38, 2);
        x.spoil(6, 2);
        due("heal(0)", x.heal(0), 0);
        due("heal(2)", x.heal(2), 0);
        due("way(38) ahead", x.way(38), 2);
        due("heal(4)", x.heal(4), 1);
        due("way(38), which failed by entry 6", x.way(38), 1);
        due("way(6)", x.way(6), 1);
        due("count(1)", x.count(1), 0);
        due("heal(64)", x.heal(64), -1);
        due("heal(-1)", x.heal(-1), -1);

        promise = 6;
        x = laid(4);
        due("number(5, 0)", x.number(5, 0), NO);
        due("number(39, 0)", x.number(39, 0), NO);
        due("number(-1, 2)", x.number(-1, 2), NO);
        due("number(0, 3) throws", numberThrows(x, 0, 3) ? 1 : 0, 1);
        due("number(39, -1) throws", numberThrows(x, 39, -1) ? 1 : 0, 1);
        due("number(4, 2)", x.number(4, 2), 30);

        promise = 7;
        x = new BernoulliWays();
        x.lay(1, 0);
        x.lay(2, 1);
        x.lay(3, 2);
        due("way(1)", x.way(1), 0);
        due("way(2)", x.way(2), 1);
        due("way(3)", x.way(3), 2);
        x.spoil(3, 1);
        due("way(3), spoilt", x.way(3), 3);
        x.relay(3, 1);
        due("way(3), anew", x.way(3), 1);
        due("way(4)", x.way(4), -2);
        due("way(38)", x.way(38), -2);
        due("way(39)", x.way(39), -1);
        due("way(-1)", x.way(-1), -1);

        promise = 8;
        due("right(3)", x.right(3), 1);
        x.spoil(3, -1);
        due("right(3), spoilt", x.right(3), 0);
        x.spoil(3, 1);
        due("right(3), spoilt back", x.right(3), 1);
        due("right(4)", x.right(4), -2);
        due("right(39)", x.right(39), -1);
        due("right(-1)", x.right(-1), -1);

        promise = 9;
        x = laid(38);
        due("agree(0)", x.agree(0), 3);
        due("agree(1)", x.agree(1), 3);
        due("agree(36)", x.agree(36), 3);
        x.spoil(8, 1);
        due("agree(8)", x.agree(8), 0);
        due("agree(7)", x.agree(7), 3);
        due("agree(9)", x.agree(9), 2);
        due("agree(39)", x.agree(39), -1);
        due("agree(-1)", x.agree(-1), -1);
        due("agree(5), not laid", laid(4).agree(5), -2);

        promise = 10;
        x = new BernoulliWays();
        int[] of36 = {2, 3, 5, 7, 13, 19, 37, -2};
        for (int k = 0; k < of36.length; k++) {
            due("prime(36, " + k + ")", x.prime(36, k), of36[k]);
        }
        due("prime(1, 0)", x.prime(1, 0), 2);
        due("prime(1, 1)", x.prime(1, 1), -2);
        due("prime(0, 0)", x.prime(0, 0), -2);
        due("prime(37, 0)", x.prime(37, 0), -2);
        due("prime(2, HIGH)", x.prime(2, HIGH), -2);
        due("prime(39, 0)", x.prime(39, 0), -1);
        due("prime(2, -1)", x.prime(2, -1), -1);

        promise = 11;
        due("whole(2)", x.whole(2), 1);
        due("whole(22)", x.whole(22), 6193);
        due("whole(36)", x.whole(36), -13711655205087L);
        due("whole(38)", x.whole(38), 488332318973594L);
        due("whole(0)", x.whole(0), NO);
        due("whole(37)", x.whole(37), NO);
        due("whole(40)", x.whole(40), NO);
        due("whole(-2)", x.whole(-2), NO);
    }

    // ---- promises 12 to 17 -----------------------------------------------------------------

    private static void residues() {
        promise = 12;
        BernoulliWays x = laid(12);
        due("residue(0, 199)", x.residue(0, 199), 1);
        due("residue(1, 7)", x.residue(1, 7), 3);
        due("residue(2, 5)", x.residue(2, 5), 1);
        due("residue(12, 691)", x.residue(12, 691), -1);
        due("residue(12, 11)", x.residue(12, 11), 1);
        due("residue(12, 13)", x.residue(12, 13), -3);
        due("residue(13, 13)", x.residue(13, 13), -2);
        due("residue(39, 13)", x.residue(39, 13), -1);
        due("residue(-1, 13)", x.residue(-1, 13), -1);
        due("residue(0, 2)", x.residue(0, 2), -1);
        due("residue(0, 9)", x.residue(0, 9), -1);
        due("residue(0, 211)", x.residue(0, 211), -1);
        due("residue(13, 0)", x.residue(13, 0), -1);
        due("count(2)", x.count(2), 4);

        promise = 13;
        due("byPowers(38, 199)", x.byPowers(38, 199), laid(38).residue(38, 199));
        due("byPowers(32, 37)", x.byPowers(32, 37), 0);
        due("byPowers(2, 5)", x.byPowers(2, 5), 1);
        due("byPowers(36, 37)", x.byPowers(36, 37), -3);
        due("byPowers(0, 37)", x.byPowers(0, 37), -3);
        due("byPowers(1, 37)", x.byPowers(1, 37), -3);
        due("byPowers(38, 3)", x.byPowers(38, 3), -3);
        due("byPowers(39, 37)", x.byPowers(39, 37), -1);
        due("byPowers(-2, 37)", x.byPowers(-2, 37), -1);
        due("byPowers(2, 1)", x.byPowers(2, 1), -1);

        promise = 14;
        due("memo(0, 0)", x.memo(0, 0), 0);
        due("memo(0, 1)", x.memo(0, 1), 199);
        due("memo(0, 2)", x.memo(0, 2), 1);
        due("memo(0, 3)", x.memo(0, 3), 1);
        due("memo(3, 0)", x.memo(3, 0), 12);
        due("memo(4, 0)", x.memo(4, 0), -2);
        due("memo(HIGH, 3)", x.memo(HIGH, 3), -2);
        due("memo(4, 4)", x.memo(4, 4), -1);
        due("memo(0, -1)", x.memo(0, -1), -1);
        due("memo(-1, 0)", x.memo(-1, 0), -1);
        x.spoil(2, 1);
        due("memo(2, 2), spoilt since", x.memo(2, 2), 1);
        due("memo(2, 3), spoilt since", x.memo(2, 3), 0);
        due("residue(2, 5), spoilt", x.residue(2, 5), 2);
        due("memo(2, 2), asked again", x.memo(2, 2), 2);
        due("memo(2, 3), asked again", x.memo(2, 3), 1);
        due("count(2), asked again", x.count(2), 4);
        BernoulliWays full = laid(38);
        int[] primes = {41, 43, 47, 53, 59, 61, 67, 71, 73, 79, 83};
        for (int i = 0; i < 22; i++) {
            full.residue(i < 11 ? 2 : 4, primes[i % 11]);
        }
        due("count(2) of 22", full.count(2), 20);
        due("memo(0, 1) of 22", full.memo(0, 1), 47);
        due("memo(19, 0) of 22", full.memo(19, 0), 4);
        due("memo(19, 1) of 22", full.memo(19, 1), 83);
        full.residue(2, 41);
        due("memo(19, 1), one more", full.memo(19, 1), 41);
        due("memo(0, 1), one more", full.memo(0, 1), 53);

        promise = 15;
        x = laid(38);
        due("often(32, 37)", x.often(32, 37), 1);
        due("often(36, 37)", x.often(36, 37), -1);
        due("often(10, 5)", x.often(10, 5), 1);
        due("often(2, 3)", x.often(2, 3), -1);
        due("often(0, 3)", x.often(0, 3), 0);
        due("often(3, 3)", x.often(3, 3), 100);
        x.spoil(3, 9);
        due("often(3, 3), which is 9", x.often(3, 3), 2);
        x.spoil(3, -9);
        x.spoil(3, -9);
        due("often(3, 3), which is -9", x.often(3, 3), 2);
        due("often(39, 3)", x.often(39, 3), -100);
        due("often(-1, 3)", x.often(-1, 3), -100);
        due("often(3, 2)", x.often(3, 2), -100);
        due("often(5, 3), not laid", laid(4).often(5, 3), -100);

        promise = 16;
        x = laid(38);
        due("kummer(5, 2, 6)", x.kummer(5, 2, 6), 0);
        due("kummer(37, 38, 2)", x.kummer(37, 38, 2), 0);
        due("kummer(199, 12, 12)", x.kummer(199, 12, 12), 0);
        due("kummer(5, 2, 8)", x.kummer(5, 2, 8), -3);
        due("kummer(5, 4, 8)", x.kummer(5, 4, 8), -3);
        due("kummer(5, 10, 2)", x.kummer(5, 10, 2), -3);
        due("kummer(5, 1, 5)", x.kummer(5, 1, 5), -3);
        due("kummer(7, 0, 6)", x.kummer(7, 0, 6), -3);
        due("kummer(3, 2, 4)", x.kummer(3, 2, 4), -3);
        x.spoil(6, 1);
        // 1/42 and 1/42 is 1/21: by 6 it is 1/126, which is 1 modulo 5; 1/12 is 3
        due("kummer(5, 2, 6), spoilt", x.kummer(5, 2, 6), 2);
        due("kummer(5, 6, 2), spoilt", x.kummer(5, 6, 2), 3);
        due("kummer(5, 39, 2)", x.kummer(5, 39, 2), -1);
        due("kummer(5, 2, -1)", x.kummer(5, 2, -1), -1);
        due("kummer(6, 2, 2)", x.kummer(6, 2, 2), -1);
        due("kummer(5, 2, 6), not laid", laid(5).kummer(5, 2, 6), -2);
        due("kummer(5, 3, 6), not laid", laid(5).kummer(5, 3, 6), -2);

        promise = 17;
        x = laid(38);
        due("kummerTwice(5, 2, 22)", x.kummerTwice(5, 2, 22), 0);
        due("kummerTwice(5, 38, 18)", x.kummerTwice(5, 38, 18), 0);
        due("kummerTwice(7, 2, 2)", x.kummerTwice(7, 2, 2), 0);
        due("kummerTwice(5, 2, 6)", x.kummerTwice(5, 2, 6), -3);
        due("kummerTwice(7, 2, 8)", x.kummerTwice(7, 2, 8), -3);
        due("kummerTwice(5, 20, 20)", x.kummerTwice(5, 20, 20), -3);
        due("kummerTwice(5, 10, 30)", x.kummerTwice(5, 10, 30), -3);
        due("kummerTwice(3, 2, 8)", x.kummerTwice(3, 2, 8), -3);
        x.spoil(2, 3);
        // entry 2 is 2/3, that is 1/2 more: (1 - 5) times 1/2 by 2 more, -1 modulo 25
        due("kummerTwice(5, 2, 22), spoilt", x.kummerTwice(5, 2, 22), 24);
        due("kummerTwice(5, 22, 2), spoilt", x.kummerTwice(5, 22, 2), 1);
        due("kummerTwice(4, 2, 2)", x.kummerTwice(4, 2, 2), -1);
        due("kummerTwice(5, 2, 42)", x.kummerTwice(5, 2, 42), -1);
        due("kummerTwice(5, -18, 2)", x.kummerTwice(5, -18, 2), -1);
        due("kummerTwice(5, 2, 22), not laid", laid(21).kummerTwice(5, 2, 22), -2);
    }

    // ---- promises 18 to 25 -----------------------------------------------------------------

    private static void theTests() {
        promise = 18;
        BernoulliWays x = laid(37);
        for (int n = 0; n <= 37; n++) {
            due("tests(" + n + ")", x.tests(n), 0);
        }
        x.spoil(3, 2);
        due("tests(3)", x.tests(3), 2 + 4);
        due("tests(4), behind a spoilt one", x.tests(4), 4);
        due("tests(2), ahead of it", x.tests(2), 0);
        x = laid(38);
        x.spoil(4, 5);
        // entry 4 is 4/30, so 2/15
        due("tests(4)", x.tests(4), 1 + 2 + 4 + 32);
        due("tests(10), by 4 spoilt", x.tests(10), 4 + 8 + 32);
        due("tests(12), by 4 spoilt", x.tests(12), 4);
        due("tests(14), by 4 spoilt", x.tests(14), 4 + 8);
        x = laid(38);
        x.spoil(2, 5);
        for (int i = 0; i < 8; i++) {
            x.spoil(2, 9);
        }
        // entry 2 is 76 then, 455/6 more: 5, 7 and 13 divide 455, 37 alone tells
        x.spoil(2, 3);
        due("number(2, 0)", x.number(2, 0), 76);
        due("kummer(5, 2, 38)", x.kummer(5, 2, 38), 0);
        due("kummer(37, 2, 38)", x.kummer(37, 2, 38) > 0 ? 1 : 0, 1);
        due("tests(38), by 37 alone", x.tests(38), 4 + 8 + 32);
        due("tests(38), not laid", laid(37).tests(38), -2);
        due("tests(39)", x.tests(39), -1);
        due("tests(-1)", x.tests(-1), -1);

        promise = 19;
        x = laid(38);
        due("suspects(63)", x.suspects(63), 0);
        x.spoil(35, 1);
        due("suspects(63), 35 spoilt", x.suspects(63), 15L << 35);
        due("suspects(2), 35 spoilt", x.suspects(2), 1L << 35);
        due("suspects(59), 35 spoilt", x.suspects(59), 1L << 35);
        due("suspects(0), 35 spoilt", x.suspects(0), 0);
        due("suspects(64)", x.suspects(64), NO);
        due("suspects(-1)", x.suspects(-1), NO);

        promise = 20;
        due("broken(0)", x.broken(0), 35);
        due("broken(1)", x.broken(1), 4);
        due("broken(2)", x.broken(2), -1);
        due("broken(-1)", x.broken(-1), -1);
        x.relay(35, 1);
        due("broken(0), healed", x.broken(0), -2);
        due("broken(1), healed", x.broken(1), 0);
        x.spoil(0, 1);
        due("broken(0), 0 spoilt", x.broken(0), 1);
        due("broken(1), 0 spoilt", x.broken(1), 38);

        promise = 21;
        x = laid(38);
        due("culprit(63), nothing spoilt", x.culprit(63), 0);
        x.spoil(12, 4);
        due("culprit(63)", x.culprit(63), 12);
        due("culprit(4)", x.culprit(4), 12);
        due("culprit(2), which none fails", x.culprit(2), 0);
        due("culprit(0)", x.culprit(0), 0);
        due("right(12), as it was", x.right(12), 0);
        due("way(12), as it was", x.way(12), 3);
        x.spoil(20, 1);
        due("culprit(63), two spoilt", x.culprit(63), -2);
        due("culprit(64)", x.culprit(64), -1);
        due("culprit(-1)", x.culprit(-1), -1);
        due("culprit(63), none laid", new BernoulliWays().culprit(63), -2);
        // 0 and 1 spoilt so that entry 1's recurrence holds: 2 and 2 times -1
        x = laid(1);
        x.spoil(0, 1);
        x.spoil(1, -1);
        due("culprit(4), where two make up for one another", x.culprit(4), -2);

        promise = 22;
        x = laid(38);
        due("trial(1, 20, 0)", x.trial(1, 20, 0), 0);
        due("trial(1, 1, 63)", x.trial(1, 1, 63), 1);
        // the first draw from 0 on: 12345 by 65536 is 0: entry 0; then 21468 modulo 9 is 3: d is 4;
        // then 9988 modulo 2 is 0: entry 0 is 5 then, whose sign is right, but not test 32
        due("trial(0, 1, 32)", x.trial(0, 1, 32), 1);
        due("trial(0, 1, 31)", x.trial(0, 1, 31), 0);
        due("count(1), as it was", x.count(1), 0);
        due("way(0), as it was", x.way(0), 1);
        due("trial(HIGH, 20, 63)", x.trial(HIGH, 20, 63) >= 1 ? 1 : 0, 1);
        due("trial(-1, 1, 63)", x.trial(-1, 1, 63), -1);
        due("trial(1, 0, 63)", x.trial(1, 0, 63), -1);
        due("trial(1, 21, 63)", x.trial(1, 21, 63), -1);
        due("trial(1, 1, 64)", x.trial(1, 1, 64), -1);
        due("trial(1, 1, 63), none laid", new BernoulliWays().trial(1, 1, 63), -2);

        promise = 23;
        for (int n = 1; n <= 38; n++) {
            due("remainder(" + n + ", 0)", x.remainder(n, 0), 0);
        }
        x.spoil(2, -2);
        // 1/6 less 2/6: a third less, times C(5, 2)
        due("remainder(4, 0)", x.remainder(4, 0), -4);
        due("remainder(4, 1)", x.remainder(4, 1), 2);
        due("remainder(4, 2)", x.remainder(4, 2), 3);
        due("remainder(1, 2)", x.remainder(1, 2), 1);
        due("remainder(0, 0)", x.remainder(0, 0), NO);
        due("remainder(39, 0)", x.remainder(39, 0), NO);
        due("remainder(4, 3)", x.remainder(4, 3), NO);
        due("remainder(4, -1)", x.remainder(4, -1), NO);
        due("remainder(5, 0), not laid", laid(4).remainder(5, 0), NO);

        promise = 24;
        x = new BernoulliWays();
        due("triangleAt(1, 0, 0)", x.triangleAt(1, 0, 0), 0);
        due("triangleAt(3, 2, 1)", x.triangleAt(3, 2, 1), 1);
        due("triangleAt(3, 2, 2)", x.triangleAt(3, 2, 2), 20);
        due("triangleAt(20, 18, 0)", x.triangleAt(20, 18, 0), 10264);
        due("triangleAt(20, 18, 1)", x.triangleAt(20, 18, 1), 14706846767L);
        due("triangleAt(20, 18, 2)", x.triangleAt(20, 18, 2), 15316280980L);
        due("triangleAt(37, 1, 0)", x.triangleAt(37, 1, 0), -488332318973594L);
        due("triangleAt(0, 38, 2)", x.triangleAt(0, 38, 2), 39);
        due("triangleAt(0, 39, 2)", x.triangleAt(0, 39, 2), NO);
        due("triangleAt(39, 0, 2)", x.triangleAt(39, 0, 2), NO);
        due("triangleAt(-1, 0, 2)", x.triangleAt(-1, 0, 2), NO);
        due("triangleAt(0, -1, 2)", x.triangleAt(0, -1, 2), NO);
        due("triangleAt(1, HIGH, 2)", x.triangleAt(1, HIGH, 2), NO);
        due("triangleAt(0, 0, 3)", x.triangleAt(0, 0, 3), NO);

        promise = 25;
        due("whichBelow(6)", x.whichBelow(6), 2);
        due("whichBelow(42)", x.whichBelow(42), 6);
        due("whichBelow(1919190)", x.whichBelow(1919190), 36);
        due("whichBelow(1)", x.whichBelow(1), -2);
        due("whichBelow(2)", x.whichBelow(2), -2);
        due("whichBelow(HIGH)", x.whichBelow(HIGH), -2);
        due("whichBelow(0)", x.whichBelow(0), -1);
        due("whichBelow(LOW)", x.whichBelow(LOW), -1);
    }

    // ---- promises 26 to 37 -----------------------------------------------------------------

    private static void primes() {
        promise = 26;
        BernoulliWays x = new BernoulliWays();
        due("irregular(157)", x.irregular(157), 2);
        due("irregular(37)", x.irregular(37), 1);
        due("irregular(3)", x.irregular(3), 0);
        due("irregular(199)", x.irregular(199), 0);
        due("irregular(2)", x.irregular(2), -1);
        due("irregular(201)", x.irregular(201), -1);
        due("irregular(1)", x.irregular(1), -1);

        promise = 27;
        int[][] pairs = {
            {37, 32}, {59, 44}, {67, 58}, {101, 68}, {103, 24}, {131, 22}, {149, 130}, {157, 62}, {157, 110}
        };
        for (int k = 0; k < pairs.length; k++) {
            due("pair(" + k + ", 0)", x.pair(k, 0), pairs[k][0]);
            due("pair(" + k + ", 1)", x.pair(k, 1), pairs[k][1]);
        }
        due("pair(9, 0)", x.pair(9, 0), -2);
        due("pair(9, 2)", x.pair(9, 2), -1);
        due("pair(0, -1)", x.pair(0, -1), -1);
        due("pair(-1, 0)", x.pair(-1, 0), -1);

        promise = 28;
        due("second(0)", new BernoulliWays().second(0), 284);
        due("second(1)", x.second(1), 914);
        due("second(2)", x.second(2), 3292);
        due("second(9)", x.second(9), -2);
        due("second(-1)", x.second(-1), -1);

        promise = 29;
        due("far(2, 199)", x.far(2, 199), x.byPowers(2, 199));
        due("far(32, 37)", x.far(32, 37), 0);
        due("far(284, 37)", x.far(284, 37), 0);
        // 6 is 2 modulo 4: entry n is n by 12 modulo 5, of n alike 2 modulo 4
        due("far(999998, 5)", x.far(999998, 5), 4);
        due("far(1000000, 5)", x.far(1000000, 5), -3);
        due("far(2, 3)", x.far(2, 3), -3);
        due("far(1000002, 5)", x.far(1000002, 5), -1);
        due("far(0, 5)", x.far(0, 5), -1);
        due("far(7, 5)", x.far(7, 5), -1);
        due("far(2, 25)", x.far(2, 25), -1);

        promise = 30;
        due("voronoi(2, 2, 5)", x.voronoi(2, 2, 5), 3);
        due("voronoi(4, 3, 7)", x.voronoi(4, 3, 7), 2);
        due("voronoi(12, 5, 13)", x.voronoi(12, 5, 13), 12);
        due("voronoi(38, 198, 199)", x.voronoi(38, 198, 199), 0);
        due("voronoi(2, 1, 3)", x.voronoi(2, 1, 3), 0);
        due("voronoi(2, 0, 5)", x.voronoi(2, 0, 5), -1);
        due("voronoi(2, 5, 5)", x.voronoi(2, 5, 5), -1);
        due("voronoi(3, 2, 5)", x.voronoi(3, 2, 5), -1);
        due("voronoi(0, 2, 5)", x.voronoi(0, 2, 5), -1);
        due("voronoi(40, 2, 5)", x.voronoi(40, 2, 5), -1);
        due("voronoi(2, 2, 4)", x.voronoi(2, 2, 4), -1);

        promise = 31;
        for (int way = 0; way <= 2; way++) {
            due("byWay(3, " + way + ", 0)", x.byWay(3, way, 0), 1);
            due("byWay(3, " + way + ", 1)", x.byWay(3, way, 1), 1);
            due("byWay(7, " + way + ", 1)", x.byWay(7, way, 1), 3);
            due("byWay(7, " + way + ", 2)", x.byWay(7, way, 2), 6);
            due("byWay(7, " + way + ", 4)", x.byWay(7, way, 4), 3);
            due("byWay(7, " + way + ", 5)", x.byWay(7, way, 5), 0);
            due("byWay(199, " + way + ", 38)", x.byWay(199, way, 38), x.byPowers(38, 199));
            due("byWay(157, " + way + ", 110)", x.byWay(157, way, 110), 0);
            due("byWay(199, " + way + ", 197)", x.byWay(199, way, 197), 0);
        }
        due("byWay(7, 0, 6)", x.byWay(7, 0, 6), -1);
        due("byWay(7, 0, -1)", x.byWay(7, 0, -1), -1);
        due("byWay(7, 3, 0)", x.byWay(7, 3, 0), -1);
        due("byWay(7, -1, 0)", x.byWay(7, -1, 0), -1);
        due("byWay(8, 0, 0)", x.byWay(8, 0, 0), -1);

        promise = 32;
        for (int way = 0; way <= 2; way++) {
            due("nothings(157, " + way + ")", x.nothings(157, way), 2);
            due("nothings(67, " + way + ")", x.nothings(67, way), 1);
            due("nothings(3, " + way + ")", x.nothings(3, way), 0);
            due("nothings(199, " + way + ")", x.nothings(199, way), 0);
        }
        due("nothings(157, 3)", x.nothings(157, 3), -1);
        due("nothings(157, -1)", x.nothings(157, -1), -1);
        due("nothings(2, 0)", x.nothings(2, 0), -1);

        promise = 33;
        due("harmonic(5)", x.harmonic(5), 3);
        due("harmonic(11)", x.harmonic(11), 6);
        due("harmonic(199)", x.harmonic(199), 178);
        due("harmonic(3)", x.harmonic(3), -1);
        due("harmonic(6)", x.harmonic(6), -1);

        promise = 34;
        due("wilson(3)", x.wilson(3), 1);
        due("wilson(13)", x.wilson(13), 0);
        due("wilson(199)", x.wilson(199), 118);
        due("wilson(2)", x.wilson(2), -1);
        due("wilson(0)", x.wilson(0), -1);

        promise = 35;
        due("classNumber(7)", x.classNumber(7), 1);
        due("classNumber(47)", x.classNumber(47), 5);
        due("classNumber(191)", x.classNumber(191), 13);
        due("classNumber(3)", x.classNumber(3), -1);
        due("classNumber(5)", x.classNumber(5), -1);
        due("classNumber(15)", x.classNumber(15), -1);
        due("classNumber(211)", x.classNumber(211), -1);

        promise = 36;
        due("quadratic(13, 2, 0)", x.quadratic(13, 2, 0), 4);
        due("quadratic(7, 3, 0)", x.quadratic(7, 3, 0), 6);
        due("quadratic(7, 3, 1)", x.quadratic(7, 3, 1), 6);
        due("quadratic(7, 3, 2)", x.quadratic(7, 3, 2), 7);
        due("quadratic(197, 4, 0)", x.quadratic(197, 4, 0), -3068584);
        due("quadratic(197, 4, 2)", x.quadratic(197, 4, 2), 1);
        due("quadratic(199, 4, 0)", x.quadratic(199, 4, 0), 0);
        due("quadratic(7, 0, 0)", x.quadratic(7, 0, 0), NO);
        due("quadratic(7, 5, 0)", x.quadratic(7, 5, 0), NO);
        due("quadratic(7, 1, 3)", x.quadratic(7, 1, 3), NO);
        due("quadratic(7, 1, -1)", x.quadratic(7, 1, -1), NO);
        due("quadratic(9, 1, 0)", x.quadratic(9, 1, 0), NO);

        promise = 37;
        x = new BernoulliWays();
        due("regulars(3)", x.regulars(3), 1);
        due("regulars(36)", x.regulars(36), 10);
        due("regulars(37)", x.regulars(37), 10);
        due("regulars(199)", x.regulars(199), 37);
        due("regulars(100)", x.regulars(100), 21);
        due("regulars(2)", x.regulars(2), -1);
        due("regulars(200)", x.regulars(200), -1);
    }

    // ---- promises 38 to 43 -----------------------------------------------------------------

    private static void sums() {
        promise = 38;
        BernoulliWays x = laid(24);
        due("coefficient(0, 1, 0)", x.coefficient(0, 1, 0), 1);
        due("coefficient(1, 1, 1)", x.coefficient(1, 1, 1), 2);
        due("coefficient(24, 25, 0)", x.coefficient(24, 25, 0), 1);
        due("coefficient(24, 25, 1)", x.coefficient(24, 25, 1), 25);
        due("coefficient(24, 24, 1)", x.coefficient(24, 24, 1), 2);
        due("coefficient(24, 1, 0)", x.coefficient(24, 1, 0), -236364091);
        due("coefficient(24, 1, 1)", x.coefficient(24, 1, 1), 2730);
        due("coefficient(24, 0, 0)", x.coefficient(24, 0, 0), 0);
        due("coefficient(24, 0, 1)", x.coefficient(24, 0, 1), 1);
        due("coefficient(24, 2, 1)", x.coefficient(24, 2, 1), 1);
        due("coefficient(24, 26, 0)", x.coefficient(24, 26, 0), NO);
        due("coefficient(24, -1, 0)", x.coefficient(24, -1, 0), NO);
        due("coefficient(25, 1, 0)", x.coefficient(25, 1, 0), NO);
        due("coefficient(-1, 0, 0)", x.coefficient(-1, 0, 0), NO);
        due("coefficient(1, 1, 2)", x.coefficient(1, 1, 2), NO);
        due("coefficient(1, 1, -1)", x.coefficient(1, 1, -1), NO);
        due("coefficient(5, 6, 0), not laid", laid(4).coefficient(5, 6, 0), -2);
        due("coefficient(5, 0, 0), not laid", laid(4).coefficient(5, 0, 0), -2);
        due("coefficient(5, 7, 0), not laid", laid(4).coefficient(5, 7, 0), NO);
        x.spoil(1, 1);
        due("coefficient(3, 3, 0), 1 spoilt", x.coefficient(3, 3, 0), 1);
        due("coefficient(3, 3, 1), 1 spoilt", x.coefficient(3, 3, 1), 1);

        promise = 39;
        x = laid(24);
        due("sum(2, 10)", x.sum(2, 10), 385);
        due("sum(24, 1)", x.sum(24, 1), 1);
        due("sum(24, 0)", x.sum(24, 0), 0);
        due("sum(24, 1000000000)", x.sum(24, 1000000000), 67842074);
        due("sum(10, 123456789)", x.sum(10, 123456789), 279140320);
        due("sum(0, 1000000000)", x.sum(0, 1000000000), 1000000000);
        due("sum(24, 1000000001)", x.sum(24, 1000000001), -1);
        due("sum(24, -1)", x.sum(24, -1), -1);
        due("sum(25, 1)", x.sum(25, 1), -1);
        due("sum(-1, 1)", x.sum(-1, 1), -1);
        due("sum(5, 1), not laid", laid(4).sum(5, 1), -2);
        x.spoil(0, 1);
        due("sum(1, 4), 0 spoilt", x.sum(1, 4), 18);
        x.spoil(0, -9);
        due("sum(0, 4), 0 spoilt", x.sum(0, 4), 1000000007 - 28);

        promise = 40;
        x = new BernoulliWays();
        due("digits(0, 0)", x.digits(0, 0), 1);
        due("digits(24, 0)", x.digits(24, 0), 1);
        due("digits(0, 9)", x.digits(0, 9), 1);
        due("digits(0, 1000000000)", x.digits(0, 1000000000), 10);
        due("digits(24, 10)", x.digits(24, 10), 25);
        due("digits(24, 1000000000)", x.digits(24, 1000000000), 224);
        due("digits(25, 1)", x.digits(25, 1), -1);
        due("digits(-1, 1)", x.digits(-1, 1), -1);
        due("digits(1, 1000000001)", x.digits(1, 1000000001), -1);
        due("digits(1, -1)", x.digits(1, -1), -1);

        promise = 41;
        String cubes = "250000000500000000250000000000000000";
        for (int i = 0; i < cubes.length(); i++) {
            due("digit(3, 1000000000, " + i + ")", x.digit(3, 1000000000, i), cubes.charAt(i) - '0');
        }
        due("digit(3, 1000000000, 36)", x.digit(3, 1000000000, 36), -2);
        String powers = "1084685189058863241523333";
        for (int i = 0; i < powers.length(); i++) {
            due("digit(24, 10, " + i + ")", x.digit(24, 10, i), powers.charAt(i) - '0');
        }
        due("digit(24, 1000000000, 7)", x.digit(24, 1000000000, 7), 0);
        due("digit(24, 1000000000, 8)", x.digit(24, 1000000000, 8), 5);
        due("digit(24, 1000000000, 223)", x.digit(24, 1000000000, 223), 0);
        due("digit(0, 0, 0)", x.digit(0, 0, 0), 0);
        due("digit(0, 0, 1)", x.digit(0, 0, 1), -2);
        due("digit(0, 0, -1)", x.digit(0, 0, -1), -1);
        due("digit(25, 0, 0)", x.digit(25, 0, 0), -1);
        due("digit(0, -1, 5)", x.digit(0, -1, 5), -1);

        promise = 42;
        x = laid(24);
        due("progression(5, 7, 3, 10)", x.progression(5, 7, 3, 10), 110206975);
        due("progression(24, 0, 1, 10)", x.progression(24, 0, 1, 10), 922260871);
        due("progression(24, 1000, 1000, 6)", x.progression(24, 1000, 1000, 6), 946700405);
        due("progression(0, 0, 1, 9)", x.progression(0, 0, 1, 9), 9);
        due("progression(3, 0, 1, 1)", x.progression(3, 0, 1, 1), 0);
        due("progression(3, 5, 5, 0)", x.progression(3, 5, 5, 0), 0);
        due("progression(1, 1, 1, 1000000000)", x.progression(1, 1, 1, 1000000000), 21);
        due("progression(25, 1, 1, 1)", x.progression(25, 1, 1, 1), -1);
        due("progression(-1, 1, 1, 1)", x.progression(-1, 1, 1, 1), -1);
        due("progression(1, -1, 1, 1)", x.progression(1, -1, 1, 1), -1);
        due("progression(1, 1001, 1, 1)", x.progression(1, 1001, 1, 1), -1);
        due("progression(1, 1, 0, 1)", x.progression(1, 1, 0, 1), -1);
        due("progression(1, 1, 1001, 1)", x.progression(1, 1, 1001, 1), -1);
        due("progression(1, 1, 1, -1)", x.progression(1, 1, 1, -1), -1);
        due("progression(1, 1, 1, 1000000001)", x.progression(1, 1, 1, 1000000001), -1);
        due("progression(5, 1, 1, 0), not laid", laid(4).progression(5, 1, 1, 0), -2);
        x.spoil(0, 1);
        // of the first power: 2 by 2 times 9 and 1/2 times 3, and 4 times 5
        due("progression(1, 5, 2, 4), 0 spoilt", x.progression(1, 5, 2, 4), 41);
        due("progression(1, 5, 2, 0), 0 spoilt", x.progression(1, 5, 2, 0), 0);

        promise = 43;
        x = laid(15);
        int[][] above = {{1}, {0, 1}, {0, -1, 4}, {0, 1, -4, 2}};
        int[][] below = {{1}, {1, 1}, {1, 3, 3}, {1, 3, 3, 1}};
        for (int i = 0; i < above.length; i++) {
            for (int j = 1; j <= above[i].length; j++) {
                String call = "triangular(" + (2 * i + 1) + ", " + j;
                due(call + ", 0)", x.triangular(2 * i + 1, j, 0), above[i][j - 1]);
                due(call + ", 1)", x.triangular(2 * i + 1, j, 1), below[i][j - 1]);
            }
        }
        due("triangular(15, 8, 0)", x.triangular(15, 8, 0), 16);
        due("triangular(15, 1, 0)", x.triangular(15, 1, 0), 0);
        due("triangular(15, 2, 0)", x.triangular(15, 2, 0), 35);
        due("triangular(15, 4, 0)", x.triangular(15, 4, 0), 718);
        due("triangular(15, 4, 1)", x.triangular(15, 4, 1), 3);
        due("triangular(15, 7, 0)", x.triangular(15, 7, 0), -64);
        due("triangular(3, 0, 0)", x.triangular(3, 0, 0), NO);
        due("triangular(3, 3, 0)", x.triangular(3, 3, 0), NO);
        due("triangular(4, 1, 0)", x.triangular(4, 1, 0), NO);
        due("triangular(17, 1, 0)", x.triangular(17, 1, 0), NO);
        due("triangular(-1, 1, 0)", x.triangular(-1, 1, 0), NO);
        due("triangular(3, 1, 2)", x.triangular(3, 1, 2), NO);
        due("triangular(3, 1, -1)", x.triangular(3, 1, -1), NO);
        due("triangular(5, 1, 0), not laid", laid(4).triangular(5, 1, 0), -2);
        x.spoil(3, 1);
        due("triangular(3, 2, 0), 3 spoilt", x.triangular(3, 2, 0), -3);
        due("triangular(1, 1, 0), 3 spoilt", x.triangular(1, 1, 0), 1);
        due("triangular(3, 3, 0), 3 spoilt", x.triangular(3, 3, 0), NO);
        x.relay(3, 1);
        x.spoil(0, 1);
        due("triangular(1, 1, 0), 0 spoilt", x.triangular(1, 1, 0), -3);
        x.spoil(1, 1);
        // N times N and N: 2 times t, though both entries are spoilt
        due("triangular(1, 1, 0), 0 and 1 spoilt", x.triangular(1, 1, 0), 2);
        due("triangular(1, 1, 1), 0 and 1 spoilt", x.triangular(1, 1, 1), 1);
    }

    // ---- promises 44 to 47 -----------------------------------------------------------------

    private static void polynomials() {
        promise = 44;
        BernoulliWays x = laid(20);
        due("poly(0, 0, 0)", x.poly(0, 0, 0), 1);
        due("poly(4, 3, 0)", x.poly(4, 3, 0), -2);
        due("poly(4, 2, 0)", x.poly(4, 2, 0), 1);
        due("poly(4, 0, 0)", x.poly(4, 0, 0), -1);
        due("poly(4, 0, 1)", x.poly(4, 0, 1), 29);
        due("poly(4, 0, 2)", x.poly(4, 0, 2), 30);
        due("poly(38, 37, 0)", x.poly(38, 37, 0), -19);
        due("poly(38, 38, 0)", x.poly(38, 38, 0), 1);
        due("poly(38, 18, 2)", x.poly(38, 18, 2) > 0 ? 1 : 0, 1);
        due("poly(38, 17, 0), 21 not laid", x.poly(38, 17, 0), NO);
        due("poly(39, 39, 0)", x.poly(39, 39, 0), NO);
        due("poly(-1, 0, 0)", x.poly(-1, 0, 0), NO);
        due("poly(4, 5, 0)", x.poly(4, 5, 0), NO);
        due("poly(4, -1, 0)", x.poly(4, -1, 0), NO);
        due("poly(4, 4, 3)", x.poly(4, 4, 3), NO);
        due("poly(4, 4, -1)", x.poly(4, 4, -1), NO);
        x.spoil(0, 2);
        due("poly(4, 4, 0), 0 spoilt", x.poly(4, 4, 0), 3);

        promise = 45;
        x = laid(10);
        due("value(10, 9, 1, 0)", x.value(10, 9, 1, 0), 1868844960);
        due("value(10, 9, 1, 1)", x.value(10, 9, 1, 1), 5);
        due("value(10, 9, 1, 2)", x.value(10, 9, 1, 2), 66);
        due("value(10, -9, 6, 0)", x.value(10, -9, 6, 0), 384);
        due("value(10, -9, 6, 1)", x.value(10, -9, 6, 1), 12757);
        due("value(10, -9, 6, 2)", x.value(10, -9, 6, 2), 33792);
        due("value(7, 1, 3, 1)", x.value(7, 1, 3, 1), 49);
        due("value(7, 1, 3, 2)", x.value(7, 1, 3, 2), 2187);
        due("value(5, -3, 6, 0)", x.value(5, -3, 6, 0), -1);
        due("value(5, -3, 6, 1)", x.value(5, -3, 6, 1), 11);
        due("value(0, -9, 6, 0)", x.value(0, -9, 6, 0), 1);
        due("value(11, 0, 1, 0)", x.value(11, 0, 1, 0), NO);
        due("value(-1, 0, 1, 0)", x.value(-1, 0, 1, 0), NO);
        due("value(1, 10, 1, 0)", x.value(1, 10, 1, 0), NO);
        due("value(1, -10, 1, 0)", x.value(1, -10, 1, 0), NO);
        due("value(1, 1, 0, 0)", x.value(1, 1, 0, 0), NO);
        due("value(1, 1, 7, 0)", x.value(1, 1, 7, 0), NO);
        due("value(1, 1, 1, 3)", x.value(1, 1, 1, 3), NO);
        due("value(1, 1, 1, -1)", x.value(1, 1, 1, -1), NO);
        due("value(5, 0, 1, 0), not laid", laid(4).value(5, 0, 1, 0), NO);
        x.spoil(1, 3);
        due("value(1, 0, 1, 0), 1 spoilt", x.value(1, 0, 1, 0), 1);

        promise = 46;
        x = laid(38);
        due("at(5, 3, 11)", laid(5).at(5, 3, 11), 8);
        due("at(10, 2, 199)", x.at(10, 2, 199), 194);
        due("at(38, 198, 199)", x.at(38, 198, 199), 121);
        due("at(0, 4, 5)", x.at(0, 4, 5), 1);
        due("at(4, 0, 5)", x.at(4, 0, 5), -3);
        due("at(5, 0, 5)", x.at(5, 0, 5), -3);
        due("at(3, 5, 5)", x.at(3, 5, 5), -1);
        due("at(3, -1, 5)", x.at(3, -1, 5), -1);
        due("at(39, 0, 5)", x.at(39, 0, 5), -1);
        due("at(-1, 0, 5)", x.at(-1, 0, 5), -1);
        due("at(3, 0, 15)", x.at(3, 0, 15), -1);
        due("at(5, 0, 5), not laid", laid(4).at(5, 0, 5), -2);

        promise = 47;
        due("roots(3, 7)", x.roots(3, 7), 3);
        due("roots(5, 11)", x.roots(5, 11), 3);
        due("roots(0, 199)", x.roots(0, 199), 0);
        due("roots(1, 199)", x.roots(1, 199), 1);
        due("roots(4, 5)", x.roots(4, 5), -3);
        due("roots(39, 7)", x.roots(39, 7), -1);
        due("roots(-1, 7)", x.roots(-1, 7), -1);
        due("roots(3, 2)", x.roots(3, 2), -1);
        due("roots(5, 3), not laid", laid(4).roots(5, 3), -2);
        x.spoil(0, -1);
        due("roots(0, 199), 0 spoilt", x.roots(0, 199), 199);
    }

    // ---- promises 48 to 55 -----------------------------------------------------------------

    private static void numbersAkin() {
        promise = 48;
        BernoulliWays x = laid(38);
        due("zeta(0, 0)", x.zeta(0, 0), -1);
        due("zeta(0, 1)", x.zeta(0, 1), 1);
        due("zeta(0, 2)", x.zeta(0, 2), 2);
        due("zeta(5, 1)", x.zeta(5, 1), 251);
        due("zeta(11, 1)", x.zeta(11, 1), 691);
        due("zeta(11, 2)", x.zeta(11, 2), 32760);
        due("zeta(35, 0)", x.zeta(35, 0), 380879311252L);
        due("zeta(35, 1)", x.zeta(35, 1), 31345693);
        due("zeta(35, 2)", x.zeta(35, 2), 69090840);
        due("zeta(37, 0)", x.zeta(37, 0), -12850850499306L);
        due("zeta(36, 2)", x.zeta(36, 2), 1);
        due("zeta(38, 0)", x.zeta(38, 0), NO);
        due("zeta(-1, 0)", x.zeta(-1, 0), NO);
        due("zeta(1, 3)", x.zeta(1, 3), NO);
        due("zeta(1, -1)", x.zeta(1, -1), NO);
        due("zeta(4, 0), not laid", laid(4).zeta(4, 0), NO);
        due("zeta(3, 2), laid", laid(4).zeta(3, 2), 120);

        promise = 49;
        due("genocchi(0)", x.genocchi(0), 0);
        due("genocchi(1)", x.genocchi(1), 1);
        due("genocchi(12)", x.genocchi(12), 2073);
        due("genocchi(20)", x.genocchi(20), 1109652905);
        due("genocchi(21)", x.genocchi(21), NO);
        due("genocchi(-1)", x.genocchi(-1), NO);
        due("genocchi(4), the last one laid", laid(4).genocchi(4), 1);
        due("genocchi(5), not laid", laid(4).genocchi(5), NO);
        x.spoil(8, 1);
        due("genocchi(8), spoilt to 0", x.genocchi(8), 0);
        x.spoil(10, 1);
        due("genocchi(10), spoilt to 1/11", x.genocchi(10), -186);
        x.spoil(12, 1);
        due("genocchi(12), spoilt to -690/2730", x.genocchi(12), 2070);
        x.spoil(18, 1);
        due("genocchi(18), spoilt to 43868/798", x.genocchi(18), -28821276);
        x.spoil(20, 1);
        due("genocchi(20), spoilt to -174610/330", x.genocchi(20), 1109646550);
        x.spoil(6, 2);
        due("genocchi(6), spoilt to 3/42", x.genocchi(6), -9);

        promise = 50;
        x = new BernoulliWays();
        due("onto(0, 0)", x.onto(0, 0), 1);
        due("onto(0, 1)", x.onto(0, 1), 0);
        due("onto(1, 0)", x.onto(1, 0), 0);
        due("onto(5, 3)", x.onto(5, 3), 150);
        due("onto(20, 20)", x.onto(20, 20), 2432902008176640000L);
        due("onto(21, 21)", x.onto(21, 21), NO);
        due("onto(27, 5)", x.onto(27, 5), 7360584859009090800L);
        due("onto(19, 12)", x.onto(19, 12), NO);
        due("onto(30, 2)", x.onto(30, 2), 1073741822);
        due("onto(30, 30)", x.onto(30, 30), NO);
        due("onto(29, 30)", x.onto(29, 30), 0);
        due("onto(31, 1)", x.onto(31, 1), NO);
        due("onto(1, 31)", x.onto(1, 31), NO);
        due("onto(-1, 0)", x.onto(-1, 0), NO);
        due("onto(0, -1)", x.onto(0, -1), NO);

        promise = 51;
        BernoulliWays right = laid(20);
        for (int n = 0; n <= 18; n++) {
            for (int what = 0; what <= 2; what++) {
                due("byBoxes(" + n + ", " + what + ")", x.byBoxes(n, what), right.number(n, what));
            }
        }
        due("byBoxes(19, 0)", x.byBoxes(19, 0), NO);
        due("byBoxes(20, 0)", x.byBoxes(20, 0), NO);
        due("byBoxes(21, 0)", x.byBoxes(21, 0), NO);
        due("byBoxes(-1, 0)", x.byBoxes(-1, 0), NO);
        due("byBoxes(1, 3)", x.byBoxes(1, 3), NO);
        due("byBoxes(1, -1)", x.byBoxes(1, -1), NO);

        promise = 52;
        long[] first = {1, 1, 1, 2, 5, 16, 61, 272, 1385, 7936};
        for (int n = 0; n < first.length; n++) {
            due("zigzag(" + n + ")", x.zigzag(n), first[n]);
        }
        due("zigzag(22)", x.zigzag(22), 69348874393137901L);
        due("zigzag(23)", x.zigzag(23), 1015423886506852352L);
        due("zigzag(24)", x.zigzag(24), NO);
        due("zigzag(-1)", x.zigzag(-1), NO);

        promise = 53;
        x = laid(22);
        for (int n = 2; n <= 22; n += 2) {
            due("tangent(" + n + ")", x.tangent(n), x.zigzag(n - 1));
        }
        due("tangent(0)", x.tangent(0), NO);
        due("tangent(21)", x.tangent(21), NO);
        due("tangent(24)", x.tangent(24), NO);
        due("tangent(-2)", x.tangent(-2), NO);
        due("tangent(6), the last one laid", laid(6).tangent(6), 16);
        due("tangent(6), not laid", laid(5).tangent(6), NO);
        x.spoil(10, 1);
        due("tangent(10), spoilt to 1/11", x.tangent(10), NO);
        x.spoil(4, 2);
        due("tangent(4), spoilt to 1/30", x.tangent(4), 2);

        promise = 54;
        x = laid(38);
        due("growth(4)", x.growth(4), 0);
        due("growth(14)", x.growth(14), 1);
        due("growth(16)", x.growth(16), 8);
        due("growth(38)", x.growth(38), 35);
        due("growth(2)", x.growth(2), -1);
        due("growth(15)", x.growth(15), -1);
        due("growth(40)", x.growth(40), -1);
        due("growth(6), not laid", laid(5).growth(6), -2);
        x.spoil(4, 2);
        due("growth(6), 4 spoilt to 1/30", x.growth(6), 0);

        promise = 55;
        x = laid(7);
        x.residue(2, 5);
        x.residue(2, 7);
        x.residue(4, 7);
        due("count(0)", x.count(0), 7);
        due("count(1)", x.count(1), 0);
        due("count(2)", x.count(2), 3);
        due("count(3)", x.count(3), 0);
        x.spoil(2, 1);
        x.spoil(3, 1);
        due("count(1), spoilt", x.count(1), 2);
        due("count(2), spoilt", x.count(2), 3);
        due("count(3), spoilt", x.count(3), 2);
        due("count(4)", x.count(4), -1);
        due("count(-1)", x.count(-1), -1);
    }
}
