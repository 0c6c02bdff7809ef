import java.math.BigInteger;

/** Every N and X that a test can have, against the document's sums written out with BigInteger. */
public final class ExactSumsTest {
    private static final BigInteger THOUSAND = BigInteger.valueOf(1000);
    private static final int[] SHARES = {0, 1, 2, 5, 20, 333, 500, 667, 998, 999, 1000};
    private static final int[] LEVELS = {1, 50, 500, 950, 999};

    private static int wrong = 0;

    private static BigInteger over(int n, int i) {
        BigInteger answer = BigInteger.ONE;
        for (int k = 1; k <= i; k++) {
            answer = answer.multiply(BigInteger.valueOf(n - k + 1)).divide(BigInteger.valueOf(k));
        }
        return answer;
    }

    private static BigInteger sum(int n, int from, int to, int j) {
        BigInteger answer = BigInteger.ZERO;
        for (int i = from; i <= to; i++) {
            BigInteger hits = BigInteger.valueOf(j).pow(i);
            BigInteger misses = BigInteger.valueOf(1000 - j).pow(n - i);
            answer = answer.add(over(n, i).multiply(hits).multiply(misses));
        }
        return answer;
    }

    private static BigInteger sum(int n, int x, boolean most, int j) {
        return most ? sum(n, 0, x, j) : sum(n, x, n, j);
    }

    private static boolean isAbove(int n, int x, boolean most, int j, int level) {
        BigInteger left = sum(n, x, most, j).multiply(THOUSAND);
        return left.compareTo(BigInteger.valueOf(level).multiply(THOUSAND.pow(n))) > 0;
    }

    private static void due(String what, int n, int x, long got, long want) {
        if (got != want) {
            wrong++;
            System.out.println(what + " of N " + n + ", X " + x + " answered " + got + ", due is " + want);
        }
    }

    private static FlakyBounds with(int n, int x) {
        FlakyBounds object = new FlakyBounds();
        object.test();
        for (int i = 0; i < n; i++) {
            object.run(0, 7, i >= x);
        }
        due("N", n, x, object.about(0, 2), n);
        due("X", n, x, object.about(0, 3), x);
        return object;
    }

    private static void checkShares(FlakyBounds object, int n, int x) {
        for (int j : SHARES) {
            int digits = 1 + (n + x + j) % 18;
            for (int most = 0; most <= 1; most++) {
                BigInteger exact = sum(n, x, most == 1, j);
                for (int d : new int[] {digits, 18}) {
                    BigInteger cut = exact.multiply(BigInteger.TEN.pow(d)).divide(THOUSAND.pow(n));
                    due("share " + j + " " + most + " " + d, n, x, object.share(0, j, most == 1, d), cut.longValueExact());
                }
            }
        }
    }

    /** The sums rise or fall with j, so a bound is right if it passes and its neighbour does not. */
    private static void checkBounds(FlakyBounds object, int n, int x) {
        for (int level : LEVELS) {
            int lower = object.bound(0, level, false);
            boolean leastAbove = isAbove(n, x, false, lower, level) && (lower == 0 || !isAbove(n, x, false, lower - 1, level));
            due("LOWER " + level + " = " + lower, n, x, leastAbove ? 1 : 0, 1);
            int upper = object.bound(0, level, true);
            boolean mostAbove = isAbove(n, x, true, upper, level) && (upper == 1000 || !isAbove(n, x, true, upper + 1, level));
            due("UPPER " + level + " = " + upper, n, x, mostAbove ? 1 : 0, 1);
        }
    }

    public static void main(String[] args) {
        for (int n = 0; n <= 48; n++) {
            for (int x = 0; x == 0 || x < n; x++) {
                FlakyBounds object = with(n, x);
                checkShares(object, n, x);
                checkBounds(object, n, x);
            }
        }
        if (wrong != 0) {
            System.out.println(wrong + " answers are not as due");
            System.exit(1);
        }
    }
}
