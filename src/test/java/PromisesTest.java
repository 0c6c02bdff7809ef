import java.lang.reflect.Constructor;
import java.lang.reflect.Field;
import java.lang.reflect.Method;
import java.lang.reflect.Modifier;
import java.util.Set;
import java.util.TreeSet;

/** Each promise by hand: ordinary inputs, the edges that the document names, and wrong inputs. */
public final class PromisesTest {
    private static final int[] FAR = {Integer.MIN_VALUE, -1, Integer.MAX_VALUE};

    private static int wrong = 0;

    private static void due(String what, long got, long want) {
        if (got != want) {
            wrong++;
            System.out.println(what + " answered " + got + ", due is " + want);
        }
    }

    private static void due(String what, boolean got, boolean want) {
        due(what, got ? 1 : 0, want ? 1 : 0);
    }

    private static void runs(FlakyBounds x, int test, int edition, boolean pass, int times) {
        for (int i = 0; i < times; i++) {
            due("run(" + test + ", " + edition + ", " + pass + ")", x.run(test, edition, pass), true);
        }
    }

    private static FlakyBounds withTests(int tests) {
        FlakyBounds x = new FlakyBounds();
        for (int i = 0; i < tests; i++) {
            x.test();
        }
        return x;
    }

    /** Test 0 has a PASS and a FAIL at edition 0: N is 2, X is 1, LOWER for 50 is 26. */
    private static FlakyBounds withMarked() {
        FlakyBounds x = withTests(1);
        runs(x, 0, 0, true, 1);
        runs(x, 0, 0, false, 1);
        due("marked", x.about(0, 4), 1);
        return x;
    }

    private static void face() {
        Set<String> members = new TreeSet<>();
        for (Method m : FlakyBounds.class.getDeclaredMethods()) {
            if (!Modifier.isPrivate(m.getModifiers())) {
                members.add(m.toString());
            }
        }
        for (Field f : FlakyBounds.class.getDeclaredFields()) {
            if (!Modifier.isPrivate(f.getModifiers())) {
                members.add(f.toString());
            }
        }
        for (Constructor<?> c : FlakyBounds.class.getDeclaredConstructors()) {
            members.add(c.toString());
        }
        Set<String> want = Set.of(
                "public static final int FlakyBounds.NONE",
                "public FlakyBounds()",
                "public int FlakyBounds.test()",
                "public boolean FlakyBounds.rules(int,int,int)",
                "public boolean FlakyBounds.run(int,int,boolean)",
                "public int FlakyBounds.judge(int,int,boolean)",
                "public int FlakyBounds.about(int,int)",
                "public int FlakyBounds.bound(int,int,boolean)",
                "public long FlakyBounds.share(int,int,boolean,int)",
                "public boolean FlakyBounds.isBad(int,int)",
                "public int FlakyBounds.broken(int)");
        due("the face is the document's, and not " + members, members.equals(want), true);
        due("final", Modifier.isFinal(FlakyBounds.class.getModifiers()), true);
        due("NONE", FlakyBounds.NONE, -1);
    }

    private static void promise1NewObject() {
        FlakyBounds x = new FlakyBounds();
        due("1 run", x.run(0, 0, true), false);
        due("1 judge", x.judge(0, 0, true), -1);
        due("1 about", x.about(0, 0), -1);
        due("1 bound", x.bound(0, 50, false), -1);
        due("1 share", x.share(0, 500, true, 5), -1);
        due("1 isBad", x.isBad(0, 0), false);
        due("1 broken", x.broken(0), 0);
    }

    private static void promise2Test() {
        FlakyBounds x = new FlakyBounds();
        for (int i = 0; i < 12; i++) {
            due("2 about before", x.about(i, 0), -1);
            due("2 test", x.test(), i);
            for (int what = 0; what <= 5; what++) {
                due("2 about a new test", x.about(i, what), 0);
            }
        }
        due("2 a thirteenth", x.test(), -1);
        due("2 a fourteenth", x.test(), -1);
        due("2 about 11", x.about(11, 0), 0);
        due("2 about 12", x.about(12, 0), -1);
    }

    private static void promise3Ranges() {
        FlakyBounds x = new FlakyBounds();
        due("3 least", x.rules(1, 0, 0), true);
        due("3 greatest", x.rules(999, 1000, 1000), true);
        due("3 clear as mark", x.rules(500, 7, 7), true);
        due("3 level 0", x.rules(0, 20, 5), false);
        due("3 level 1000", x.rules(1000, 20, 5), false);
        due("3 mark 1001", x.rules(50, 1001, 5), false);
        due("3 clear 1001", x.rules(50, 1000, 1001), false);
        due("3 clear above mark", x.rules(50, 20, 21), false);
        for (int far : FAR) {
            due("3 far level", x.rules(far, 20, 5), false);
            due("3 far mark", x.rules(50, far, 5), false);
            due("3 far clear", x.rules(50, 20, far), false);
        }
        due("3 both far below", x.rules(50, -1, -2), false);
    }

    private static void promise3RefusedRulesChangeNothing() {
        FlakyBounds x = withTests(1);
        due("3 rules", x.rules(50, 26, 0), true);
        due("3 refused for clear", x.rules(60, 10, 11), false);
        due("3 refused for mark", x.rules(60, -1, -1), false);
        runs(x, 0, 0, true, 1);
        runs(x, 0, 0, false, 1);
        due("3 LOWER 26 isn't above MARK 26", x.about(0, 4), 0);
        due("3 rules of now", x.rules(50, 25, 0), true);
        due("3 they count from the next run on", x.about(0, 4), 0);
        runs(x, 0, 900, false, 1);
        due("3 LOWER 26 is above MARK 25", x.about(0, 4), 1);
    }

    private static void promise3FirstRules() {
        // Two fails at a BAD edition begin to count all at once when it passes: X is 2, N 18 or 19.
        FlakyBounds x = withTests(2);
        for (int i = 0; i < 2; i++) {
            runs(x, i, 1, false, 2);
            runs(x, i, 2, true, 15 + i);
            due("3 not marked before", x.about(i, 4), 0);
            runs(x, i, 1, true, 1);
        }
        due("3 LOWER of 2 in 18", x.bound(0, 50, false), 21);
        due("3 at first MARK is 20: 21 is above", x.about(0, 4), 1);
        due("3 LOWER of 2 in 19", x.bound(1, 50, false), 20);
        due("3 at first MARK is 20: 20 isn't above", x.about(1, 4), 0);
    }

    private static void promise3ExactMark() {
        // AT LEAST(500) of 1 in 2 is 750 thousandths: not above LEVEL 750, but above LEVEL 749.
        FlakyBounds x = withTests(2);
        x.rules(750, 500, 0);
        runs(x, 0, 0, true, 1);
        runs(x, 0, 0, false, 1);
        due("3 LOWER 501 is above MARK 500", x.about(0, 4), 1);
        x.rules(749, 500, 0);
        runs(x, 1, 0, true, 1);
        runs(x, 1, 0, false, 1);
        due("3 LOWER 500 isn't above MARK 500", x.about(1, 4), 0);
        FlakyBounds y = withTests(1);
        y.rules(999, 1000, 0);
        runs(y, 0, 0, true, 1);
        runs(y, 0, 0, false, 40);
        due("3 nothing is above MARK 1000", y.about(0, 4), 0);
    }

    private static void promise3ExactClear() {
        // AT MOST(500) of 1 in 3 is 500 thousandths: not above LEVEL 500, so UPPER is 499.
        for (int clear = 499; clear <= 500; clear++) {
            FlakyBounds x = withMarked();
            x.rules(500, 1000, clear);
            due("3 rules alone clear nothing", x.about(0, 4), 1);
            runs(x, 0, 1, true, 1);
            due("3 UPPER", x.bound(0, 500, true), 499);
            due("3 CLEAR " + clear, x.about(0, 4), clear == 499 ? 1 : 0);
        }
        FlakyBounds y = withMarked();
        y.rules(999, 0, 0);
        runs(y, 0, 1, true, 45);
        due("3 nothing is below CLEAR 0", y.about(0, 4), 1);
    }

    private static void promise3OneChangeARun() {
        // For LEVEL 999 LOWER is 969 and UPPER 31: each run changes the mark, and just once.
        FlakyBounds x = withTests(1);
        x.rules(999, 968, 32);
        runs(x, 0, 0, true, 1);
        runs(x, 0, 0, false, 1);
        for (int i = 0; i < 7; i++) {
            due("3 marked in turns", x.about(0, 4), i % 2 == 0 ? 1 : 0);
            due("3 times marked", x.about(0, 5), i / 2 + 1);
            runs(x, 0, 900, false, 1);
        }
    }

    private static void promise4Run() {
        FlakyBounds x = withTests(2);
        due("4 edition 0", x.run(1, 0, true), true);
        due("4 edition 999", x.run(1, 999, false), true);
        due("4 edition 1000", x.run(1, 1000, true), false);
        due("4 test 2", x.run(2, 0, true), false);
        for (int far : FAR) {
            due("4 far edition", x.run(1, far, true), false);
            due("4 far test", x.run(far, 0, true), false);
        }
        due("4 only good runs count", x.about(1, 0), 2);
        due("4 of their own test", x.about(0, 0), 0);
    }

    private static void promise4Latest48() {
        FlakyBounds x = withTests(2);
        runs(x, 0, 1, false, 1);
        runs(x, 0, 2, false, 1);
        for (int i = 0; i < 46; i++) {
            runs(x, 0, 100 + i, true, 1);
            runs(x, 1, 3, true, 1);
        }
        due("4 48 runs", x.about(0, 0), 48);
        due("4 the first counts", x.isBad(0, 1), true);
        runs(x, 0, 200, true, 1);
        due("4 the first went", x.isBad(0, 1), false);
        due("4 the second counts", x.isBad(0, 2), true);
        due("4 48 runs still", x.about(0, 0), 48);
        runs(x, 0, 2, true, 1);
        due("4 the second went as its edition passed", x.about(0, 1), 0);
        due("4 all pass", x.about(0, 2), 48);
        for (int i = 0; i < 60; i++) {
            runs(x, 0, 300 + i, false, 1);
        }
        due("4 one went long ago", x.isBad(0, 311), false);
        due("4 the oldest", x.isBad(0, 312), true);
        due("4 the newest", x.isBad(0, 359), true);
        due("4 each test has its own 48", x.about(1, 0), 46);
    }

    private static void promise5Clear() {
        FlakyBounds x = withTests(2);
        due("5 pass", x.judge(0, 1, true), 1);
        due("5 pass again", x.judge(0, 1, true), 1);
        due("5 fail", x.judge(0, 2, false), 3);
        due("5 fail again", x.judge(0, 2, false), 3);
        due("5 pass begins anew", x.judge(0, 3, true), 1);
        due("5 runs of it", x.about(0, 0), 5);
        due("5 not marked yet", x.about(0, 4), 0);
        due("5 edition 1000", x.judge(0, 1000, true), -1);
        due("5 test 2", x.judge(2, 0, true), -1);
        for (int far : FAR) {
            due("5 far edition", x.judge(0, far, true), -1);
            due("5 far test", x.judge(far, 0, true), -1);
        }
        due("5 no run of wrong calls", x.about(0, 0), 5);
        due("5 edition 0", x.judge(1, 0, true), 1);
        due("5 edition 999", x.judge(1, 999, false), 3);
    }

    private static void promise5Marked() {
        FlakyBounds x = withMarked();
        due("5 first fail", x.judge(0, 7, false), 0);
        due("5 second fail", x.judge(0, 7, false), 0);
        due("5 third fail", x.judge(0, 7, false), 4);
        due("5 anew, first fail", x.judge(0, 7, false), 0);
        due("5 pass behind one", x.judge(0, 7, true), 2);
        due("5 pass at once", x.judge(0, 7, true), 1);
        due("5 fail", x.judge(0, 7, false), 0);
        due("5 fail", x.judge(0, 7, false), 0);
        due("5 pass behind two", x.judge(0, 7, true), 2);
        due("5 anew behind it", x.judge(0, 7, false), 0);
        due("5 wrong edition takes nothing", x.judge(0, 1000, false), -1);
        due("5 goes on", x.judge(0, 7, false), 0);
        due("5 third", x.judge(0, 7, false), 4);
        due("5 all are runs", x.about(0, 0), 14);
    }

    private static void promise5OtherEditions() {
        FlakyBounds x = withMarked();
        due("5 at 8", x.judge(0, 8, false), 0);
        due("5 at 8", x.judge(0, 8, false), 0);
        due("5 at 9 anew", x.judge(0, 9, false), 0);
        due("5 back at 8 anew", x.judge(0, 8, false), 0);
        due("5 at 8", x.judge(0, 8, false), 0);
        due("5 at 8", x.judge(0, 8, false), 4);
        due("5 at 8", x.judge(0, 8, false), 0);
        due("5 pass at 9 is at once", x.judge(0, 9, true), 1);
        due("5 pass at 8 is at once", x.judge(0, 8, true), 1);
        due("5 at 0", x.judge(0, 0, false), 0);
        runs(x, 0, 0, false, 2);
        runs(x, 0, 1, true, 1);
        due("5 a run outside judging isn't judged", x.judge(0, 0, false), 0);
        due("5 third at 0", x.judge(0, 0, false), 4);
    }

    private static void promise5OtherTests() {
        FlakyBounds x = withMarked();
        due("5 test 1", x.test(), 1);
        runs(x, 1, 0, true, 1);
        runs(x, 1, 0, false, 1);
        due("5 of 0", x.judge(0, 5, false), 0);
        due("5 of 0", x.judge(0, 5, false), 0);
        due("5 of 1", x.judge(1, 5, false), 0);
        due("5 of 0", x.judge(0, 5, false), 4);
        due("5 of 1", x.judge(1, 5, true), 2);
    }

    private static void promise5MarkBeforeThisRun() {
        FlakyBounds x = withTests(1);
        runs(x, 0, 5, true, 1);
        due("5 the run that marks has one try", x.judge(0, 5, false), 3);
        due("5 it marks", x.about(0, 4), 1);
        due("5 the next one has three", x.judge(0, 5, false), 0);
        x.rules(999, 1000, 1000);
        due("5 the run that clears", x.judge(0, 5, false), 0);
        due("5 it clears", x.about(0, 4), 0);
        due("5 one try is long used up", x.judge(0, 5, false), 3);
        FlakyBounds y = withMarked();
        due("5 fail", y.judge(0, 6, false), 0);
        due("5 fail", y.judge(0, 6, false), 0);
        y.rules(999, 1000, 1000);
        due("5 the clearing third fail", y.judge(0, 6, false), 4);
        due("5 it is clear", y.about(0, 4), 0);
        due("5 fail of a clear one", y.judge(0, 6, false), 3);
        FlakyBounds z = withMarked();
        z.rules(999, 1000, 1000);
        due("5 fail that clears", z.judge(0, 6, false), 0);
        due("5 pass of a clear one behind it", z.judge(0, 6, true), 2);
    }

    private static void promise6About() {
        FlakyBounds x = withTests(2);
        x.rules(50, 1000, 0);
        runs(x, 0, 0, true, 2);
        runs(x, 0, 0, false, 3);
        runs(x, 0, 1, false, 4);
        runs(x, 0, 2, true, 5);
        long[] want = {14, 5, 10, 3, 0, 0};
        for (int what = 0; what < want.length; what++) {
            due("6 about " + what, x.about(0, what), want[what]);
            due("6 about the other " + what, x.about(1, what), 0);
            due("6 about none " + what, x.about(2, what), -1);
        }
        due("6 what 6", x.about(0, 6), -1);
        for (int far : FAR) {
            due("6 far what", x.about(0, far), -1);
            due("6 far test", x.about(far, 0), -1);
        }
        x.rules(50, 20, 5);
        runs(x, 0, 3, true, 1);
        due("6 marked", x.about(0, 4), 1);
        due("6 once", x.about(0, 5), 1);
        runs(x, 0, 3, true, 1);
        due("6 still once", x.about(0, 5), 1);
    }

    private static void promise7Bound() {
        FlakyBounds x = withTests(2);
        due("7 LOWER of nothing", x.bound(0, 999, false), 0);
        due("7 UPPER of nothing", x.bound(0, 999, true), 1000);
        runs(x, 0, 0, true, 1);
        due("7 LOWER of 0 in 1", x.bound(0, 999, false), 0);
        for (int level = 1; level <= 999; level++) {
            if (level % 37 == 1 || level > 997) {
                // AT MOST(1000 - level) is the level itself, so it isn't above it.
                due("7 UPPER of 0 in 1", x.bound(0, level, true), 999 - level);
            }
        }
        runs(x, 0, 0, false, 1);
        due("7 LOWER of 1 in 2, 190", x.bound(0, 190, false), 101);
        due("7 LOWER of 1 in 2, 189", x.bound(0, 189, false), 100);
        due("7 UPPER of 1 in 2, 750", x.bound(0, 750, true), 499);
        due("7 UPPER of 1 in 2, 749", x.bound(0, 749, true), 500);
        due("7 the other test", x.bound(1, 749, true), 1000);
        due("7 level 0", x.bound(0, 0, true), -1);
        due("7 level 1000", x.bound(0, 1000, false), -1);
        due("7 test 2", x.bound(2, 50, false), -1);
        for (int far : FAR) {
            due("7 far level", x.bound(0, far, true), -1);
            due("7 far test", x.bound(far, 50, true), -1);
        }
    }

    private static void promise8Share() {
        FlakyBounds x = withTests(1);
        due("8 of nothing", x.share(0, 1000, true, 1), 10);
        due("8 of nothing", x.share(0, 0, false, 18), 1000000000000000000L);
        runs(x, 0, 0, true, 2);
        runs(x, 0, 0, false, 1);
        // Of 1 in 3 with p = 1/1000: 1 - 0.999^3 = 0.002997001; 0.999^3 + 3 * 0.001 * 0.999^2 = 0.999997002.
        due("8 AT LEAST", x.share(0, 1, false, 9), 2997001);
        due("8 AT LEAST, cut off", x.share(0, 1, false, 3), 2);
        due("8 AT LEAST, one digit", x.share(0, 1, false, 1), 0);
        due("8 AT LEAST, zeros behind", x.share(0, 1, false, 18), 2997001000000000L);
        due("8 AT MOST", x.share(0, 1, true, 9), 999997002);
        due("8 AT MOST, cut off", x.share(0, 1, true, 5), 99999);
        due("8 AT MOST(0)", x.share(0, 0, true, 2), 100);
        due("8 AT LEAST(0)", x.share(0, 0, false, 2), 0);
        due("8 AT MOST(1000)", x.share(0, 1000, true, 2), 0);
        due("8 AT LEAST(1000)", x.share(0, 1000, false, 2), 100);
        due("8 digits 0", x.share(0, 1, true, 0), -1);
        due("8 digits 19", x.share(0, 1, true, 19), -1);
        due("8 j 1001", x.share(0, 1001, true, 5), -1);
        due("8 test 1", x.share(1, 1, true, 5), -1);
        for (int far : FAR) {
            due("8 far j", x.share(0, far, false, 5), -1);
            due("8 far digits", x.share(0, 5, false, far), -1);
            due("8 far test", x.share(far, 5, false, 5), -1);
        }
    }

    private static void promise9IsBad() {
        FlakyBounds x = withTests(2);
        due("9 no runs", x.isBad(0, 0), false);
        runs(x, 0, 0, false, 2);
        runs(x, 0, 999, false, 1);
        due("9 all fail", x.isBad(0, 0), true);
        due("9 edition 999", x.isBad(0, 999), true);
        due("9 another edition", x.isBad(0, 1), false);
        due("9 another test", x.isBad(1, 0), false);
        runs(x, 0, 0, true, 1);
        due("9 not all fail", x.isBad(0, 0), false);
        due("9 edition 1000", x.isBad(0, 1000), false);
        due("9 test 2", x.isBad(2, 0), false);
        for (int far : FAR) {
            due("9 far edition", x.isBad(0, far), false);
            due("9 far test", x.isBad(far, 0), false);
        }
    }

    private static void promise10Broken() {
        FlakyBounds x = withMarked();
        for (int i = 1; i < 12; i++) {
            x.test();
        }
        for (int i = 0; i < 12; i++) {
            runs(x, i, 77, false, 1);
        }
        due("10 all but the marked one", x.broken(77), 0xffe);
        due("10 the marked one is BAD", x.isBad(0, 77), true);
        runs(x, 3, 77, true, 1);
        due("10 3 passed", x.broken(77), 0xff6);
        due("10 no runs", x.broken(78), 0);
        due("10 edition 1000", x.broken(1000), 0);
        for (int far : FAR) {
            due("10 far edition", x.broken(far), 0);
        }
        for (int i = 0; i < 48; i++) {
            runs(x, 11, 200, true, 1);
        }
        due("10 a run that went", x.broken(77), 0x7f6);
        x.rules(999, 1000, 1000);
        runs(x, 0, 0, true, 1);
        due("10 it became clear", x.broken(77), 0x7f7);
    }

    /** The calls of README.md, in its order. */
    private static void readmeExample() {
        FlakyBounds bounds = new FlakyBounds();
        due("README rules", bounds.rules(50, 20, 5), true);
        int test = bounds.test();
        due("README test", test, 0);
        due("README run 6", bounds.run(test, 6, false), true);
        due("README isBad", bounds.isBad(test, 6), true);
        due("README broken 6", bounds.broken(6), 1);
        due("README run 7", bounds.run(test, 7, true), true);
        due("README run 7", bounds.run(test, 7, false), true);
        due("README about", bounds.about(test, 4), 1);
        due("README bound", bounds.bound(test, 50, false), 26);
        due("README share", bounds.share(test, 500, true, 6), 750000);
        due("README judge", bounds.judge(test, 8, false), 0);
        due("README judge", bounds.judge(test, 8, true), 2);
        due("README broken 8", bounds.broken(8), 0);
    }

    public static void main(String[] args) {
        face();
        readmeExample();
        promise1NewObject();
        promise2Test();
        promise3Ranges();
        promise3RefusedRulesChangeNothing();
        promise3FirstRules();
        promise3ExactMark();
        promise3ExactClear();
        promise3OneChangeARun();
        promise4Run();
        promise4Latest48();
        promise5Clear();
        promise5Marked();
        promise5OtherEditions();
        promise5OtherTests();
        promise5MarkBeforeThisRun();
        promise6About();
        promise7Bound();
        promise8Share();
        promise9IsBad();
        promise10Broken();
        if (wrong != 0) {
            System.out.println(wrong + " answers are not as due");
            System.exit(1);
        }
    }
}
