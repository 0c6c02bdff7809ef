import java.math.BigInteger;
import java.util.ArrayList;
import java.util.HashMap;
import java.util.List;
import java.util.Map;
import java.util.Random;

/** Runs of up to 512 calls, each answer against a slow model that follows the document word by word. */
public final class RandomCallsTest {
    private static final int OBJECTS = 300;
    private static final BigInteger THOUSAND = BigInteger.valueOf(1000);
    private static final Map<Integer, BigInteger[]> SUMS = new HashMap<>();

    private record Run(int edition, boolean pass) { }

    private static final class Row {
        final List<Run> runs = new ArrayList<>();
        final List<Run> judged = new ArrayList<>();
        boolean marked;
        int becameMarked;

        boolean bad(int edition) {
            boolean any = false;
            for (Run r : runs) {
                if (r.edition() == edition) {
                    any = true;
                    if (r.pass()) {
                        return false;
                    }
                }
            }
            return any;
        }

        int doubtful() {
            int answer = 0;
            for (Run r : runs) {
                boolean found = false;
                for (Run other : runs) {
                    found |= other.edition() == r.edition() && other.pass() != r.pass();
                }
                answer += found ? 1 : 0;
            }
            return answer;
        }

        int n() {
            int answer = 0;
            for (Run r : runs) {
                answer += bad(r.edition()) ? 0 : 1;
            }
            return answer;
        }

        int x() {
            int answer = 0;
            for (Run r : runs) {
                answer += bad(r.edition()) || r.pass() ? 0 : 1;
            }
            return answer;
        }
    }

    private static final class Model {
        final List<Row> rows = new ArrayList<>();
        int level = 50;
        int mark = 20;
        int clear = 5;

        Row row(int test) {
            return test >= 0 && test < rows.size() ? rows.get(test) : null;
        }

        long test() {
            if (rows.size() == 12) {
                return -1;
            }
            rows.add(new Row());
            return rows.size() - 1;
        }

        long rules(int l, int m, int c) {
            if (l < 1 || l > 999 || m < 0 || m > 1000 || c < 0 || c > 1000 || c > m) {
                return 0;
            }
            level = l;
            mark = m;
            clear = c;
            return 1;
        }

        long run(int test, int edition, boolean pass) {
            Row r = row(test);
            if (r == null || edition < 0 || edition > 999) {
                return 0;
            }
            r.runs.add(new Run(edition, pass));
            if (r.runs.size() > 48) {
                r.runs.remove(0);
            }
            if (!r.marked) {
                if (bound(test, level, false) > mark) {
                    r.marked = true;
                    r.becameMarked++;
                }
            } else if (bound(test, level, true) < clear) {
                r.marked = false;
            }
            return 1;
        }

        long judge(int test, int edition, boolean pass) {
            Row r = row(test);
            if (r == null || edition < 0 || edition > 999) {
                return -1;
            }
            if (!r.judged.isEmpty() && r.judged.get(0).edition() != edition) {
                r.judged.clear();
            }
            r.judged.add(new Run(edition, pass));
            boolean was = r.marked;
            run(test, edition, pass);
            if (!pass && r.judged.size() < (was ? 3 : 1)) {
                return 0;
            }
            long verdict = pass ? (r.judged.size() == 1 ? 1 : 2) : (was ? 4 : 3);
            r.judged.clear();
            return verdict;
        }

        long about(int test, int what) {
            Row r = row(test);
            if (r == null || what < 0 || what > 5) {
                return -1;
            }
            return new long[] {r.runs.size(), r.doubtful(), r.n(), r.x(), r.marked ? 1 : 0, r.becameMarked}[what];
        }

        /** Looks at every j, so that it doesn't lean on the sums' rise or fall. */
        long bound(int test, int l, boolean upper) {
            Row r = row(test);
            if (r == null || l < 1 || l > 999) {
                return -1;
            }
            int n = r.n();
            int x = r.x();
            BigInteger limit = BigInteger.valueOf(l).multiply(THOUSAND.pow(n));
            for (int i = 0; i <= 1000; i++) {
                int j = upper ? 1000 - i : i;
                if (sum(n, x, j, upper).multiply(THOUSAND).compareTo(limit) > 0) {
                    return j;
                }
            }
            throw new IllegalStateException("no bound");
        }

        long share(int test, int j, boolean most, int digits) {
            Row r = row(test);
            if (r == null || j < 0 || j > 1000 || digits < 1 || digits > 18) {
                return -1;
            }
            BigInteger exact = sum(r.n(), r.x(), j, most);
            return exact.multiply(BigInteger.TEN.pow(digits)).divide(THOUSAND.pow(r.n())).longValueExact();
        }

        long isBad(int test, int edition) {
            Row r = row(test);
            return r != null && r.bad(edition) ? 1 : 0;
        }

        long broken(int edition) {
            long bits = 0;
            for (int i = 0; i < rows.size(); i++) {
                if (rows.get(i).bad(edition) && !rows.get(i).marked) {
                    bits += 1L << i;
                }
            }
            return bits;
        }
    }

    private static BigInteger sum(int n, int x, int j, boolean most) {
        BigInteger[] sums = SUMS.computeIfAbsent(n * 1001 + j, key -> sumsUpTo(n, j));
        if (most) {
            return sums[x];
        }
        return x == 0 ? sums[n] : sums[n].subtract(sums[x - 1]);
    }

    private static BigInteger[] sumsUpTo(int n, int j) {
        BigInteger[] answer = new BigInteger[n + 1];
        BigInteger sum = BigInteger.ZERO;
        BigInteger over = BigInteger.ONE;
        for (int i = 0; i <= n; i++) {
            BigInteger hits = BigInteger.valueOf(j).pow(i);
            sum = sum.add(over.multiply(hits).multiply(BigInteger.valueOf(1000 - j).pow(n - i)));
            answer[i] = sum;
            over = over.multiply(BigInteger.valueOf(n - i)).divide(BigInteger.valueOf(i + 1));
        }
        return answer;
    }

    private final Random random;
    private final FlakyBounds object = new FlakyBounds();
    private final Model model = new Model();
    private final int tests;
    private final int editions;
    private final int passes;
    private String call;
    private long got;
    private long want;

    private RandomCallsTest(long seed) {
        random = new Random(seed);
        tests = 1 + random.nextInt(random.nextBoolean() ? 2 : 12);
        editions = 1 + random.nextInt(random.nextBoolean() ? 4 : 60);
        passes = random.nextInt(101);
    }

    /** Mostly from 0 to most, now and then the edge or far away. */
    private int near(int most) {
        switch (random.nextInt(40)) {
            case 0: return -1;
            case 1: return most + 1;
            case 2: return 0;
            case 3: return most;
            case 4: return random.nextInt();
            default: return random.nextInt(most + 1);
        }
    }

    private int someTest() {
        return near(tests - 1);
    }

    private int someEdition() {
        return random.nextInt(30) == 0 ? near(999) : random.nextInt(editions);
    }

    private boolean somePass() {
        return random.nextInt(100) < passes;
    }

    private void callRules() {
        int l = near(999);
        int m = near(1000);
        int c = random.nextBoolean() ? near(1000) : near(Math.max(0, Math.min(m, 1000)));
        if (random.nextBoolean()) {
            l = 900 + random.nextInt(100);
        }
        call = "rules(" + l + ", " + m + ", " + c + ")";
        got = object.rules(l, m, c) ? 1 : 0;
        want = model.rules(l, m, c);
    }

    private void callRun(boolean judge) {
        int t = someTest();
        int e = someEdition();
        boolean p = somePass();
        call = (judge ? "judge(" : "run(") + t + ", " + e + ", " + p + ")";
        got = judge ? object.judge(t, e, p) : object.run(t, e, p) ? 1 : 0;
        want = judge ? model.judge(t, e, p) : model.run(t, e, p);
    }

    private void callAbout() {
        int t = someTest();
        int w = near(5);
        call = "about(" + t + ", " + w + ")";
        got = object.about(t, w);
        want = model.about(t, w);
    }

    private void callBound() {
        int t = someTest();
        int l = near(999);
        boolean u = random.nextBoolean();
        call = "bound(" + t + ", " + l + ", " + u + ")";
        got = object.bound(t, l, u);
        want = model.bound(t, l, u);
    }

    private void callShare() {
        int t = someTest();
        int j = near(1000);
        boolean m = random.nextBoolean();
        int d = near(18);
        call = "share(" + t + ", " + j + ", " + m + ", " + d + ")";
        got = object.share(t, j, m, d);
        want = model.share(t, j, m, d);
    }

    private void callEdition(boolean broken) {
        int t = someTest();
        int e = someEdition();
        call = broken ? "broken(" + e + ")" : "isBad(" + t + ", " + e + ")";
        got = broken ? object.broken(e) : object.isBad(t, e) ? 1 : 0;
        want = broken ? model.broken(e) : model.isBad(t, e);
    }

    private void callTest() {
        call = "test()";
        got = object.test();
        want = model.test();
    }

    private void next(int number) {
        int kind = number < tests ? 99 : random.nextInt(100);
        if (kind < 3) {
            callRules();
        } else if (kind < 35) {
            callRun(false);
        } else if (kind < 65) {
            callRun(true);
        } else if (kind < 80) {
            callAbout();
        } else if (kind < 86) {
            callBound();
        } else if (kind < 92) {
            callShare();
        } else if (kind < 98) {
            callEdition(random.nextBoolean());
        } else if (number < tests || random.nextInt(10) == 0) {
            callTest();
        }
    }

    private boolean holds() {
        List<String> calls = new ArrayList<>();
        for (int i = 0; i < 512; i++) {
            next(i);
            calls.add(call + " answered " + got);
            if (got != want) {
                System.out.println(String.join("\n", calls) + ", due is " + want);
                return false;
            }
        }
        return true;
    }

    public static void main(String[] args) {
        for (int seed = 0; seed < OBJECTS; seed++) {
            if (!new RandomCallsTest(seed).holds()) {
                System.out.println("seed " + seed);
                System.exit(1);
            }
        }
    }
}
