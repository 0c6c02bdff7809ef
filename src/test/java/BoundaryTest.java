/**
 * The boundary cases, one method for each sentence of the document that names one, in its order. An
 * object is used for at most 512 calls, so that what a test asks is promised.
 */
public final class BoundaryTest {
    private static final int[] NO_TEST = {Integer.MIN_VALUE, -1, 12, 13, Integer.MAX_VALUE};
    private static final int[] NO_EDITION = {Integer.MIN_VALUE, -1, 1000, 1001, Integer.MAX_VALUE};
    private static final int[] NO_LEVEL = {Integer.MIN_VALUE, -1, 0, 1000, 1001, Integer.MAX_VALUE};
    private static final int[] NO_SHARE = {Integer.MIN_VALUE, -1, 1001, Integer.MAX_VALUE};
    private static final int[] NO_DIGITS = {Integer.MIN_VALUE, -1, 0, 19, 20, Integer.MAX_VALUE};
    private static final int[] NO_WHAT = {Integer.MIN_VALUE, -1, 6, 7, Integer.MAX_VALUE};
    private static final long ONE = 1000000000000000000L;

    private static int wrong = 0;
    private static String sentence = "";

    private static void due(String what, long got, long want) {
        if (got != want) {
            wrong++;
            System.out.println("\"" + sentence + "\": " + what + " answered " + got + ", due is " + want);
        }
    }

    private static void due(String what, boolean got, boolean want) {
        due(what, got ? 1 : 0, want ? 1 : 0);
    }

    private static FlakyBounds withTests(int tests) {
        FlakyBounds x = new FlakyBounds();
        for (int i = 0; i < tests; i++) {
            due("test()", x.test(), i);
        }
        return x;
    }

    private static void runs(FlakyBounds x, int test, int edition, boolean pass, int times) {
        for (int i = 0; i < times; i++) {
            due("run(" + test + ", " + edition + ", " + pass + ")", x.run(test, edition, pass), true);
        }
    }

    /** So many PASSES and FAILS at one edition: N is their sum and X the FAILS, if there is a PASS. */
    private static void mixed(FlakyBounds x, int test, int edition, int passes, int fails) {
        runs(x, test, edition, false, fails);
        runs(x, test, edition, true, passes);
    }

    private static FlakyBounds withMarked() {
        FlakyBounds x = withTests(1);
        mixed(x, 0, 0, 1, 1);
        due("marked", x.about(0, 4), 1);
        return x;
    }

    private static void about(FlakyBounds x, int test, long... want) {
        for (int what = 0; what < want.length; what++) {
            due("about(" + test + ", " + what + ")", x.about(test, what), want[what]);
        }
    }

    private static void use512Calls() {
        sentence = "An object is used for at most 512 calls after it has been made";
        FlakyBounds x = withTests(12);
        for (int i = 0; i < 499; i++) {
            due("call " + (13 + i), x.run(i % 12, i, false), true);
        }
        due("the 512th call", x.broken(498), 1 << 6);

        FlakyBounds y = withTests(1);
        y.rules(999, 968, 32);
        mixed(y, 0, 0, 1, 1);
        for (int i = 4; i < 511; i++) {
            y.run(0, 0, i % 2 == 0);
        }
        due("the 512th call, of the latest 48", y.about(0, 1), 48);
    }

    private static void atMost12Tests() {
        sentence = "TESTS, at most 12, numbered from 0";
        FlakyBounds x = withTests(12);
        mixed(x, 0, 3, 1, 1);
        mixed(x, 11, 4, 2, 0);
        for (int i = 0; i < 3; i++) {
            due("one more", x.test(), FlakyBounds.NONE);
        }
        about(x, 0, 2, 2, 2, 1, 1, 1);
        about(x, 11, 2, 0, 2, 0, 0, 0);
        due("the last can run", x.run(11, 0, true), true);
        due("there is none behind it", x.run(12, 0, true), false);
        due("the last can be judged", x.judge(11, 0, true), 1);
        due("there is none behind it", x.judge(12, 0, true), FlakyBounds.NONE);
    }

    private static void editionsFrom0To999() {
        sentence = "each at an EDITION (0 .. 999)";
        FlakyBounds x = withTests(2);
        for (int edition : new int[] {0, 1, 998, 999}) {
            due("run at " + edition, x.run(0, edition, false), true);
            due("judge at " + edition, x.judge(1, edition, false), 3);
            due("isBad at " + edition, x.isBad(0, edition), true);
            due("broken at " + edition, x.broken(edition), 3);
        }
        for (int edition : NO_EDITION) {
            due("run at " + edition, x.run(0, edition, false), false);
            due("judge at " + edition, x.judge(1, edition, false), FlakyBounds.NONE);
            due("isBad at " + edition, x.isBad(0, edition), false);
            due("broken at " + edition, x.broken(edition), 0);
        }
        due("runs of 0", x.about(0, 0), 4);
        due("runs of 1", x.about(1, 0), 4);
    }

    private static void latest48Count() {
        sentence = "the latest 48 count";
        FlakyBounds x = withTests(2);
        for (int i = 0; i < 110; i++) {
            runs(x, 0, i, false, 1);
            int count = i < 48 ? i + 1 : 48;
            due("runs behind " + i, x.about(0, 0), count);
            due("the oldest behind " + i, x.isBad(0, i + 1 - count), true);
            due("the one before it behind " + i, x.isBad(0, i - count), false);
        }
        due("the other test's runs are its own", x.about(1, 0), 0);

        FlakyBounds y = withTests(1);
        for (int i = 0; i < 100; i++) {
            due("judge", y.judge(0, i, false), 3);
        }
        due("outcomes of a judging are runs too", y.about(0, 0), 48);
        due("the oldest of them", y.isBad(0, 52), true);
        due("the one before it", y.isBad(0, 51), false);
    }

    private static void anOlderOneGoes() {
        sentence = "an older one goes when a new one comes";
        FlakyBounds x = withTests(3);
        x.rules(50, 1000, 0);
        // The PASS goes: the FAIL beside it is no longer DOUBTFUL, and its edition is BAD.
        runs(x, 0, 7, true, 1);
        runs(x, 0, 7, false, 1);
        runs(x, 0, 8, true, 46);
        about(x, 0, 48, 2, 48, 1);
        runs(x, 0, 8, true, 1);
        about(x, 0, 48, 0, 47, 0);
        due("BAD when the PASS has gone", x.isBad(0, 7), true);
        due("broken when the PASS has gone", x.broken(7), 1);
        runs(x, 0, 8, true, 1);
        about(x, 0, 48, 0, 48, 0);
        due("not BAD when the FAIL has gone too", x.isBad(0, 7), false);
        // The FAIL goes: the PASS stays in N.
        runs(x, 1, 7, false, 1);
        runs(x, 1, 7, true, 1);
        runs(x, 1, 8, true, 46);
        about(x, 1, 48, 2, 48, 1);
        runs(x, 1, 8, true, 1);
        about(x, 1, 48, 0, 48, 0);
        // The new one comes at the edition of the one that goes.
        runs(x, 2, 7, false, 1);
        runs(x, 2, 8, true, 47);
        about(x, 2, 48, 0, 47, 0);
        runs(x, 2, 7, true, 1);
        about(x, 2, 48, 0, 48, 0);
        runs(x, 2, 8, false, 1);
        about(x, 2, 48, 47, 48, 1);
    }

    private static void doubtful() {
        sentence = "A RUN is DOUBTFUL if, among those that count, another one of the same EDITION has the other OUTCOME.";
        FlakyBounds x = withTests(2);
        about(x, 0, 0, 0);
        runs(x, 0, 5, true, 1);
        about(x, 0, 1, 0);
        runs(x, 0, 5, true, 1);
        about(x, 0, 2, 0);
        runs(x, 0, 4, false, 2);
        runs(x, 1, 5, false, 1);
        about(x, 0, 4, 0);
        about(x, 1, 1, 0);
        runs(x, 0, 5, false, 1);
        about(x, 0, 5, 3);
        runs(x, 0, 999, false, 1);
        runs(x, 0, 0, true, 1);
        about(x, 0, 7, 3);
        runs(x, 0, 0, false, 1);
        about(x, 0, 8, 5);
        mixed(x, 1, 5, 24, 23);
        about(x, 1, 48, 48);
    }

    private static void badHasRuns() {
        sentence = "An EDITION is BAD for a test if it has RUNS and all are FAILS.";
        FlakyBounds x = withTests(2);
        due("without runs", x.isBad(0, 0), false);
        due("without runs", x.isBad(0, 999), false);
        runs(x, 0, 0, false, 1);
        due("one FAIL", x.isBad(0, 0), true);
        due("for the other test", x.isBad(1, 0), false);
        runs(x, 0, 0, false, 47);
        due("48 FAILS", x.isBad(0, 0), true);
        runs(x, 0, 0, true, 1);
        due("47 FAILS and a PASS", x.isBad(0, 0), false);
        runs(x, 0, 0, false, 47);
        due("a PASS and 47 FAILS", x.isBad(0, 0), false);
        runs(x, 0, 0, false, 1);
        due("48 FAILS when the PASS has gone", x.isBad(0, 0), true);
        runs(x, 1, 0, true, 1);
        due("one PASS", x.isBad(1, 0), false);
    }

    private static void nAndX() {
        sentence = "N of a test: how many of its RUNS aren't at a BAD EDITION; X: how many of these are FAILS.";
        FlakyBounds x = withTests(3);
        x.rules(50, 1000, 0);
        about(x, 0, 0, 0, 0, 0);
        for (int i = 0; i < 48; i++) {
            runs(x, 0, i, false, 1);
            runs(x, 1, i, true, 1);
        }
        about(x, 0, 48, 0, 0, 0);
        about(x, 1, 48, 0, 48, 0);
        mixed(x, 2, 0, 1, 47);
        about(x, 2, 48, 48, 48, 47);
        runs(x, 2, 1, false, 1);
        about(x, 2, 48, 47, 47, 46);
    }

    private static void sharesAtTheEnds() {
        sentence = "p = j / 1000 (j 0 .. 1000)";
        FlakyBounds x = withTests(1);
        mixed(x, 0, 0, 47, 1);
        due("AT LEAST(0)", x.share(0, 0, false, 18), 0);
        due("AT LEAST(1000)", x.share(0, 1000, false, 18), ONE);
        due("AT MOST(0)", x.share(0, 0, true, 18), ONE);
        due("AT MOST(1000)", x.share(0, 1000, true, 18), 0);
        // One FAIL of 48: AT LEAST(999) lacks 1 / 1000^48, AT MOST(999) is (1 + 48 * 999) / 1000^48.
        due("AT LEAST(999)", x.share(0, 999, false, 18), ONE - 1);
        due("AT MOST(999)", x.share(0, 999, true, 18), 0);
        for (int j : NO_SHARE) {
            due("AT LEAST(" + j + ")", x.share(0, j, false, 18), -1);
            due("AT MOST(" + j + ")", x.share(0, j, true, 18), -1);
        }
    }

    private static void zeroToTheZero() {
        sentence = "(0^0 is 1.)";
        FlakyBounds x = withTests(2);
        runs(x, 1, 0, true, 1);
        for (int j = 0; j <= 1000; j += 500) {
            due("AT LEAST(" + j + ") of none", x.share(0, j, false, 18), ONE);
            due("AT MOST(" + j + ") of none", x.share(0, j, true, 18), ONE);
            due("AT LEAST(" + j + ") of 0 in 1", x.share(1, j, false, 18), ONE);
        }
        due("AT MOST(0) of 0 in 1", x.share(1, 0, true, 18), ONE);
        due("AT MOST(1000) of 0 in 1", x.share(1, 1000, true, 18), 0);
        mixed(x, 1, 0, 0, 1);
        due("AT LEAST(0) of 1 in 2", x.share(1, 0, false, 18), 0);
        due("AT LEAST(1000) of 1 in 2", x.share(1, 1000, false, 18), ONE);
        due("AT MOST(0) of 1 in 2", x.share(1, 0, true, 18), ONE);
        due("AT MOST(1000) of 1 in 2", x.share(1, 1000, true, 18), 0);
    }

    private static void comparedExactly() {
        sentence = "These are told and compared exactly.";
        FlakyBounds x = withTests(2);
        x.rules(50, 1000, 0);
        // 0 in 2: AT MOST(900) is 10 thousandths just so, AT MOST(899) is 10.201.
        runs(x, 0, 0, true, 2);
        due("UPPER for 10", x.bound(0, 10, true), 899);
        due("UPPER for 9", x.bound(0, 9, true), 905);
        // 1 in 2: AT LEAST(100) is 190 thousandths just so.
        mixed(x, 1, 0, 1, 1);
        due("LOWER for 190", x.bound(1, 190, false), 101);
        due("LOWER for 189", x.bound(1, 189, false), 100);
        // 0 in 48: AT MOST(1) is 0.999^48, whose 144 decimals all count.
        runs(x, 0, 0, true, 46);
        due("18 digits", x.share(0, 1, true, 18), 953110896879894258L);
        due("UPPER for 953", x.bound(0, 953, true), 1);
        due("UPPER for 954", x.bound(0, 954, true), 0);
    }

    private static void comparedExactlyNearALevel() {
        sentence = "These are told and compared exactly.";
        // Of all sums these come nearest to a LEVEL, to a half of 10^-9, without being it.
        FlakyBounds x = withTests(4);
        x.rules(50, 1000, 0);
        mixed(x, 0, 0, 11, 7);
        mixed(x, 1, 0, 8, 10);
        mixed(x, 2, 0, 7, 11);
        mixed(x, 3, 0, 10, 8);
        due("UPPER: AT MOST(756) is a little above", x.bound(0, 1, true), 756);
        due("UPPER: AT MOST(244) is a little below", x.bound(1, 999, true), 243);
        due("LOWER: AT LEAST(244) is a little above", x.bound(2, 1, false), 244);
        due("LOWER: AT LEAST(756) is a little below", x.bound(3, 999, false), 757);
        marksOf18(11, 1, 243, 1);
        marksOf18(11, 1, 244, 0);
        marksOf18(8, 999, 756, 1);
        marksOf18(8, 999, 757, 0);
        clearsOf18(7, 1, 756, 1);
        clearsOf18(7, 1, 757, 0);
        clearsOf18(10, 999, 243, 1);
        clearsOf18(10, 999, 244, 0);
    }

    private static void marksOf18(int fails, int level, int mark, int want) {
        FlakyBounds x = withTests(1);
        x.rules(level, mark, 0);
        runs(x, 0, 0, false, fails);
        runs(x, 0, 1, true, 17 - fails);
        due("not marked without FAILS that count", x.about(0, 4), 0);
        runs(x, 0, 0, true, 1);
        due(fails + " of 18 by LEVEL " + level + ", MARK " + mark, x.about(0, 4), want);
    }

    private static void clearsOf18(int fails, int level, int clear, int want) {
        FlakyBounds x = withTests(1);
        mixed(x, 0, 0, 18 - fails, fails);
        due("marked by the first rules", x.about(0, 4), 1);
        x.rules(level, 1000, clear);
        runs(x, 0, 1, false, 1);
        due(fails + " of 18 by LEVEL " + level + ", CLEAR " + clear, x.about(0, 4), want);
    }

    private static void levelsFrom1To999() {
        sentence = "BOUNDS for a LEVEL (1 .. 999 thousandths)";
        FlakyBounds x = withTests(1);
        mixed(x, 0, 0, 1, 1);
        due("LOWER for 1", x.bound(0, 1, false), 1);
        due("LOWER for 999", x.bound(0, 999, false), 969);
        due("UPPER for 1", x.bound(0, 1, true), 999);
        due("UPPER for 999", x.bound(0, 999, true), 31);
        for (int level : NO_LEVEL) {
            due("LOWER for " + level, x.bound(0, level, false), FlakyBounds.NONE);
            due("UPPER for " + level, x.bound(0, level, true), FlakyBounds.NONE);
            due("rules of LEVEL " + level, x.rules(level, 20, 5), false);
        }
        due("rules of LEVEL 1", x.rules(1, 20, 5), true);
        due("rules of LEVEL 999", x.rules(999, 20, 5), true);
    }

    private static void everyLevel() {
        sentence = "BOUNDS for a LEVEL (1 .. 999 thousandths)";
        for (int first = 1; first <= 2; first++) {
            FlakyBounds x = withTests(1);
            runs(x, 0, 0, true, 1);
            for (int level = first; level <= 999; level += 2) {
                // AT MOST(1000 - level) of 0 in 1 is the LEVEL itself, so not above it.
                due("UPPER for " + level, x.bound(0, level, true), 999 - level);
            }
        }
    }

    private static void leastAndGreatestJ() {
        sentence = "LOWER: the least j so that AT LEAST(j) is above the LEVEL; UPPER: the greatest j so that AT MOST(j) is above the LEVEL.";
        FlakyBounds x = withTests(3);
        x.rules(50, 1000, 0);
        runs(x, 1, 0, true, 48);
        mixed(x, 2, 0, 1, 47);
        for (int level : new int[] {1, 50, 500, 998, 999}) {
            due("LOWER of none", x.bound(0, level, false), 0);
            due("UPPER of none", x.bound(0, level, true), 1000);
            due("LOWER without FAILS", x.bound(1, level, false), 0);
        }
        due("UPPER of 0 in 48 for 999: AT MOST(1) is 0.953", x.bound(1, 999, true), 0);
        due("UPPER of 0 in 48 for 1", x.bound(1, 1, true), 134);
        due("LOWER of 47 in 48 for 999", x.bound(2, 999, false), 1000);
        due("LOWER of 47 in 48 for 1", x.bound(2, 1, false), 824);
        due("UPPER of 47 in 48 for 1: AT MOST(999) is 0.0469", x.bound(2, 1, true), 999);
        due("UPPER of 47 in 48 for 46", x.bound(2, 46, true), 999);
        due("UPPER of 47 in 48 for 47", x.bound(2, 47, true), 998);
    }

    private static void rulesRanges() {
        sentence = "RULES: LEVEL, MARK (0 .. 1000), CLEAR (0 .. 1000, not above MARK)";
        FlakyBounds x = new FlakyBounds();
        due("the least", x.rules(1, 0, 0), true);
        due("the greatest", x.rules(999, 1000, 1000), true);
        due("MARK 1000, CLEAR 0", x.rules(50, 1000, 0), true);
        due("CLEAR is MARK", x.rules(50, 20, 20), true);
        due("CLEAR is above MARK", x.rules(50, 20, 21), false);
        due("CLEAR 1 is above MARK 0", x.rules(50, 0, 1), false);
        due("CLEAR 1000 is above MARK 999", x.rules(50, 999, 1000), false);
        for (int bad : NO_SHARE) {
            due("MARK " + bad, x.rules(50, bad, 0), false);
            due("CLEAR " + bad, x.rules(50, 1000, bad), false);
            due("both " + bad, x.rules(50, bad, bad), false);
        }
    }

    private static void firstRules() {
        sentence = "at first 50, 20, 5";
        // The greatest N of which 1, 2 and 3 FAILS still mark; all the FAILS come in with the last PASS.
        int[] greatest = {2, 18, 41};
        for (int fails = 1; fails <= 3; fails++) {
            for (int more = 0; more <= 1; more++) {
                FlakyBounds x = withTests(1);
                int n = greatest[fails - 1] + more;
                runs(x, 0, 0, false, fails);
                runs(x, 0, 1, true, n - fails - 1);
                due("not marked yet", x.about(0, 4), 0);
                runs(x, 0, 0, true, 1);
                due("N", x.about(0, 2), n);
                due("marked by " + fails + " in " + n, x.about(0, 4), 1 - more);
            }
        }
        FlakyBounds y = withMarked();
        runs(y, 0, 0, true, 48);
        due("UPPER of 0 in 48 is 60: never below the first CLEAR", y.bound(0, 50, true), 60);
        due("so it stays marked", y.about(0, 4), 1);
    }

    private static void markedAboveMark() {
        sentence = "a test that isn't MARKED becomes so if LOWER is above MARK";
        FlakyBounds x = withTests(5);
        int[] marks = {25, 26, 0, 0, 1000};
        for (int i = 0; i < 3; i++) {
            x.rules(50, marks[i], 0);
            runs(x, i, 0, true, 1);
            due("LOWER 0 isn't above any MARK", x.about(i, 4), 0);
            runs(x, i, 0, false, 1);
            due("LOWER 26", x.bound(i, 50, false), 26);
            due("with MARK " + marks[i], x.about(i, 4), marks[i] < 26 ? 1 : 0);
        }
        x.rules(999, 0, 0);
        runs(x, 3, 0, false, 48);
        due("FAILS at a BAD edition alone don't mark", x.about(3, 4), 0);
        x.rules(999, 1000, 0);
        mixed(x, 4, 0, 1, 47);
        due("LOWER 1000", x.bound(4, 999, false), 1000);
        due("isn't above MARK 1000", x.about(4, 4), 0);
        x.rules(999, 999, 0);
        runs(x, 4, 0, false, 1);
        due("the PASS is the latest but one", x.about(4, 3), 47);
        due("LOWER 1000 is above MARK 999", x.about(4, 4), 1);
    }

    private static void clearBelowClear() {
        sentence = "one that is MARKED becomes clear if UPPER is below CLEAR";
        // 1 in 3 for LEVEL 500: UPPER is 499.
        for (int clear = 498; clear <= 501; clear++) {
            FlakyBounds x = withMarked();
            x.rules(500, 1000, clear);
            runs(x, 0, 1, true, 1);
            due("UPPER", x.bound(0, 500, true), 499);
            due("with CLEAR " + clear, x.about(0, 4), clear > 499 ? 0 : 1);
            due("how often it became marked", x.about(0, 5), 1);
        }
        FlakyBounds y = withMarked();
        y.rules(999, 1000, 0);
        runs(y, 0, 1, true, 48);
        due("UPPER 0", y.bound(0, 999, true), 0);
        due("isn't below CLEAR 0", y.about(0, 4), 1);
        y.rules(999, 1000, 1);
        runs(y, 0, 1, true, 1);
        due("UPPER 0 is below CLEAR 1", y.about(0, 4), 0);
        FlakyBounds z = withMarked();
        runs(z, 0, 1, false, 48);
        z.rules(1, 1000, 1000);
        runs(z, 0, 1, false, 1);
        due("UPPER of none", z.bound(0, 1, true), 1000);
        due("UPPER 1000 isn't below CLEAR 1000", z.about(0, 4), 1);
    }

    private static void whenARunHasCome() {
        sentence = "When a RUN has come";
        FlakyBounds x = withTests(2);
        x.rules(50, 1000, 0);
        mixed(x, 0, 0, 1, 1);
        x.rules(50, 0, 0);
        for (int edition : NO_EDITION) {
            x.run(0, edition, false);
            x.judge(0, edition, false);
        }
        for (int test : NO_TEST) {
            x.run(test, 0, false);
            x.judge(test, 0, false);
        }
        due("a refused call is no RUN", x.about(0, 4), 0);
        runs(x, 1, 0, false, 3);
        due("another test's RUN is none of it", x.about(0, 4), 0);
        due("a RUN by judge", x.judge(0, 1, true), 1);
        due("marks", x.about(0, 4), 1);
        due("once", x.about(0, 5), 1);
    }

    private static void changedRulesCountFromTheNextRunOn() {
        sentence = "Changed RULES count from the next RUN on.";
        FlakyBounds x = withMarked();
        x.rules(999, 1000, 1000);
        due("not at once", x.about(0, 4), 1);
        due("three tries still", x.judge(0, 5, false), 0);
        due("cleared by that RUN", x.about(0, 4), 0);
        x.rules(50, 0, 0);
        due("not at once", x.about(0, 4), 0);
        due("broken still", x.broken(5), 1);
        runs(x, 0, 6, true, 1);
        due("marked by the next RUN", x.about(0, 4), 1);
        due("broken no more", x.broken(5), 0);
        due("for the second time", x.about(0, 5), 2);
    }

    private static void tries() {
        sentence = "until one is a PASS, or so many are FAILS as it has TRIES: 1, or, if it was MARKED before this RUN, 3";
        FlakyBounds x = withTests(1);
        due("one try", x.judge(0, 0, false), 3);
        due("one try again", x.judge(0, 0, false), 3);
        due("a PASS that marks", x.judge(0, 0, true), 1);
        due("it marks", x.about(0, 4), 1);
        due("first", x.judge(0, 0, false), 0);
        due("second", x.judge(0, 0, false), 0);
        due("third", x.judge(0, 0, false), 4);
        due("first", x.judge(0, 0, false), 0);
        due("second", x.judge(0, 0, false), 0);
        due("PASS in place of the third", x.judge(0, 0, true), 2);
        due("PASS at once", x.judge(0, 0, true), 1);
        due("PASS at once again", x.judge(0, 0, true), 1);
        due("first", x.judge(0, 0, false), 0);
        due("PASS in place of the second", x.judge(0, 0, true), 2);
        // The RUN that clears was MARKED before it; the next one isn't.
        due("first", x.judge(0, 0, false), 0);
        x.rules(999, 1000, 1000);
        due("second, and clear by it", x.judge(0, 0, false), 0);
        due("clear", x.about(0, 4), 0);
        due("third, with one try", x.judge(0, 0, false), 3);
        due("a FAIL that marks is no quarantined one", marksByFail(), 3);
    }

    private static int marksByFail() {
        FlakyBounds x = withTests(1);
        due("PASS", x.judge(0, 0, true), 1);
        int verdict = x.judge(0, 0, false);
        due("marked by it", x.about(0, 4), 1);
        return verdict;
    }

    private static void none() {
        sentence = "`NONE = -1`: None.";
        due("NONE", FlakyBounds.NONE, -1);
    }

    private static void newObject() {
        sentence = "No tests.";
        FlakyBounds x = new FlakyBounds();
        for (int test = 0; test < 13; test++) {
            due("run", x.run(test, 0, true), false);
            due("judge", x.judge(test, 0, true), FlakyBounds.NONE);
            due("about", x.about(test, 0), FlakyBounds.NONE);
            due("bound", x.bound(test, 50, false), FlakyBounds.NONE);
            due("share", x.share(test, 500, true, 5), -1);
            due("isBad", x.isBad(test, 0), false);
        }
        due("broken(0)", x.broken(0), 0);
        due("broken(999)", x.broken(999), 0);
        due("the first test", x.test(), 0);
        due("is new", x.about(0, 0), 0);
        due("another object has none", new FlakyBounds().about(0, 0), FlakyBounds.NONE);
    }

    private static void noneIfThereAre12() {
        sentence = "A new test: its number; NONE if there are 12.";
        FlakyBounds x = new FlakyBounds();
        for (int i = 0; i < 12; i++) {
            due("not there yet: " + i, x.run(i, 0, true), false);
            due("test()", x.test(), i);
            about(x, i, 0, 0, 0, 0, 0, 0);
        }
        due("a 13th", x.test(), FlakyBounds.NONE);
        due("there is no 13th", x.about(12, 0), FlakyBounds.NONE);
    }

    private static void refusedRules() {
        sentence = "RULES; false, and nothing changes, if they aren't in range.";
        // LOWER of 1 in 2 is 26 for LEVEL 50, and above that for a greater LEVEL.
        for (int bad : NO_LEVEL) {
            refusedKeeps(bad, 0, 0);
        }
        for (int bad : NO_SHARE) {
            refusedKeeps(999, bad, 0);
            refusedKeeps(999, 0, bad);
        }
        refusedKeeps(999, 0, 1);
        refusedKeeps(999, 25, 26);
    }

    private static void refusedKeeps(int level, int mark, int clear) {
        String what = "behind rules(" + level + ", " + mark + ", " + clear + ")";
        FlakyBounds x = withTests(1);
        due("rules", x.rules(50, 26, 26), true);
        due(what, x.rules(level, mark, clear), false);
        mixed(x, 0, 0, 1, 1);
        due(what + " LOWER 26 isn't above MARK 26", x.about(0, 4), 0);
        // For LEVEL 999 UPPER is 31: not below CLEAR 31, but below CLEAR 32.
        for (int kept = 31; kept <= 32; kept++) {
            FlakyBounds y = withMarked();
            due("rules", y.rules(999, 1000, kept), true);
            due(what, y.rules(level, mark, clear), false);
            runs(y, 0, 1, false, 1);
            due(what + " UPPER 31, CLEAR " + kept, y.about(0, 4), 32 - kept);
        }
    }

    private static void refusedRun() {
        sentence = "A RUN of a test; false if there is no such test or EDITION.";
        FlakyBounds x = withTests(2);
        mixed(x, 1, 0, 2, 1);
        for (int test : new int[] {Integer.MIN_VALUE, -1, 2, 11, 12, Integer.MAX_VALUE}) {
            due("test " + test, x.run(test, 0, false), false);
        }
        for (int edition : NO_EDITION) {
            due("edition " + edition, x.run(1, edition, true), false);
        }
        due("neither", x.run(-1, -1, true), false);
        about(x, 0, 0, 0, 0, 0, 0, 0);
        about(x, 1, 3, 3, 3, 1, 1, 1);
    }

    private static void refusedJudging() {
        sentence = "NONE if there is none such.";
        FlakyBounds x = withMarked();
        due("first", x.judge(0, 5, false), 0);
        for (int edition : NO_EDITION) {
            due("FAIL at " + edition, x.judge(0, edition, false), FlakyBounds.NONE);
            due("PASS at " + edition, x.judge(0, edition, true), FlakyBounds.NONE);
        }
        for (int test : new int[] {Integer.MIN_VALUE, -1, 1, 11, 12, Integer.MAX_VALUE}) {
            due("FAIL of " + test, x.judge(test, 5, false), FlakyBounds.NONE);
            due("PASS of " + test, x.judge(test, 5, true), FlakyBounds.NONE);
        }
        due("nothing was taken", x.about(0, 0), 3);
        due("second, as if nothing were between", x.judge(0, 5, false), 0);
        due("third", x.judge(0, 5, false), 4);
    }

    private static void judgingOfThisEdition() {
        sentence = "behind those since its latest VERDICT that wasn't 0 (of this EDITION; other ones begin anew)";
        FlakyBounds x = withMarked();
        due("first at 0", x.judge(0, 0, false), 0);
        due("second at 0", x.judge(0, 0, false), 0);
        due("first at 999", x.judge(0, 999, false), 0);
        due("second at 999", x.judge(0, 999, false), 0);
        due("third at 999", x.judge(0, 999, false), 4);
        due("first at 999 again", x.judge(0, 999, false), 0);
        due("PASS at once at 1", x.judge(0, 1, true), 1);
        due("first at 1", x.judge(0, 1, false), 0);
        runs(x, 0, 1, false, 2);
        runs(x, 0, 2, true, 1);
        due("second at 1: a RUN alone isn't judged", x.judge(0, 1, false), 0);
        due("third at 1", x.judge(0, 1, false), 4);
        // The judging outlives the RUNS that it took.
        due("first at 3", x.judge(0, 3, false), 0);
        mixed(x, 0, 4, 24, 24);
        due("no RUN at 3 counts", x.isBad(0, 3), false);
        due("still marked", x.about(0, 4), 1);
        due("PASS behind it", x.judge(0, 3, true), 2);
    }

    private static void aboutAnotherWhat() {
        sentence = "NONE if there is none such, or for another what.";
        FlakyBounds x = withMarked();
        about(x, 0, 2, 2, 2, 1, 1, 1);
        for (int what : NO_WHAT) {
            due("about(0, " + what + ")", x.about(0, what), FlakyBounds.NONE);
        }
        for (int test : new int[] {Integer.MIN_VALUE, -1, 1, 11, 12, Integer.MAX_VALUE}) {
            for (int what = -1; what <= 6; what++) {
                due("about(" + test + ", " + what + ")", x.about(test, what), FlakyBounds.NONE);
            }
        }
    }

    private static void noBound() {
        sentence = "The LOWER bound (upper: the UPPER one) of a test for a LEVEL; NONE if there is none such.";
        FlakyBounds x = withMarked();
        for (int test : new int[] {Integer.MIN_VALUE, -1, 1, 11, 12, Integer.MAX_VALUE}) {
            due("LOWER of " + test, x.bound(test, 50, false), FlakyBounds.NONE);
            due("UPPER of " + test, x.bound(test, 50, true), FlakyBounds.NONE);
        }
        for (int level : NO_LEVEL) {
            due("neither", x.bound(1, level, true), FlakyBounds.NONE);
        }
        x.rules(500, 20, 5);
        due("LOWER goes by its own LEVEL", x.bound(0, 50, false), 26);
        due("UPPER goes by its own LEVEL", x.bound(0, 50, true), 974);
    }

    private static void digitsFrom1To18() {
        sentence = "in so many digits behind the point (1 .. 18), cut off: as a number; - 1 if there is no such test, j or number.";
        FlakyBounds x = withTests(2);
        // 1 in 3: AT MOST(1) is 0.999997002, AT LEAST(1) is 0.002997001.
        mixed(x, 0, 0, 2, 1);
        long[] most = {9, 99, 999, 9999, 99999, 999997, 9999970, 99999700, 999997002};
        long[] least = {0, 0, 2, 29, 299, 2997, 29970, 299700, 2997001};
        long one = 1;
        for (int digits = 1; digits <= 18; digits++) {
            one *= 10;
            long beyond = digits > 9 ? one / 1000000000L : 1;
            int row = digits > 9 ? 8 : digits - 1;
            due("AT MOST in " + digits, x.share(0, 1, true, digits), most[row] * beyond);
            due("AT LEAST in " + digits, x.share(0, 1, false, digits), least[row] * beyond);
            due("1 in " + digits, x.share(1, 1, false, digits), one);
        }
        for (int digits : NO_DIGITS) {
            due("in " + digits, x.share(0, 1, true, digits), -1);
            due("in " + digits, x.share(0, 1, false, digits), -1);
        }
        for (int test : new int[] {Integer.MIN_VALUE, -1, 2, 11, 12, Integer.MAX_VALUE}) {
            due("of " + test, x.share(test, 1, true, 18), -1);
            due("of " + test, x.share(test, 1, false, 1), -1);
        }
        for (int j : NO_SHARE) {
            due("for " + j, x.share(0, j, true, 1), -1);
        }
    }

    private static void isBadOfNone() {
        sentence = "Whether an EDITION is BAD for a test; false if there is none such.";
        FlakyBounds x = withTests(1);
        runs(x, 0, 0, false, 1);
        runs(x, 0, 999, false, 1);
        for (int test : new int[] {Integer.MIN_VALUE, -1, 1, 11, 12, Integer.MAX_VALUE}) {
            due("of " + test, x.isBad(test, 0), false);
        }
        for (int edition : NO_EDITION) {
            due("at " + edition, x.isBad(0, edition), false);
        }
        due("at 0", x.isBad(0, 0), true);
        due("at 999", x.isBad(0, 999), true);
        FlakyBounds y = withMarked();
        runs(y, 0, 5, false, 1);
        due("of a marked test too", y.isBad(0, 5), true);
    }

    private static void brokenBits() {
        sentence = "The tests whose FAILS at an EDITION, of RUNS that count, are real: BAD there, and not MARKED; as bits.";
        FlakyBounds x = withTests(12);
        due("no RUNS", x.broken(0), 0);
        for (int i = 11; i >= 0; i--) {
            runs(x, i, 0, false, 1);
            due("from the last test on", x.broken(0), 0xfff & -(1 << i));
        }
        for (int edition : NO_EDITION) {
            due("broken(" + edition + ")", x.broken(edition), 0);
        }
        runs(x, 11, 0, true, 1);
        due("the last test passed", x.broken(0), 0x7ff);
        due("it is marked", x.about(11, 4), 1);
        runs(x, 11, 999, false, 1);
        due("FAILS of a marked test aren't real", x.broken(999), 0);
        x.rules(999, 1000, 1000);
        runs(x, 11, 999, false, 1);
        due("clear, they are", x.broken(999), 0x800);
        runs(x, 5, 1, true, 47);
        due("its FAIL is the oldest that counts", x.broken(0), 0x7ff);
        runs(x, 5, 1, true, 1);
        due("its FAIL has gone", x.broken(0), 0x7df);
    }

    public static void main(String[] args) {
        use512Calls();
        atMost12Tests();
        editionsFrom0To999();
        latest48Count();
        anOlderOneGoes();
        doubtful();
        badHasRuns();
        nAndX();
        sharesAtTheEnds();
        zeroToTheZero();
        comparedExactly();
        comparedExactlyNearALevel();
        levelsFrom1To999();
        everyLevel();
        leastAndGreatestJ();
        rulesRanges();
        firstRules();
        markedAboveMark();
        clearBelowClear();
        whenARunHasCome();
        changedRulesCountFromTheNextRunOn();
        tries();
        none();
        newObject();
        noneIfThereAre12();
        refusedRules();
        refusedRun();
        refusedJudging();
        judgingOfThisEdition();
        aboutAnotherWhat();
        noBound();
        digitsFrom1To18();
        isBadOfNone();
        brokenBits();
        if (wrong != 0) {
            System.out.println(wrong + " answers are not as due");
            System.exit(1);
        }
    }
}
