/**
 * Tests that fail now and then: their runs by editions, retries, which failures are real, and exact
 * bounds for how often a test fails of itself.
 */
public final class FlakyBounds {
    public static final int NONE = -1;

    private static final int MOST_TESTS = 12;
    private static final int MOST_RUNS = 48;
    private static final int EDITIONS = 1000;
    private static final int THOUSAND = 1000;
    private static final int MOST_DIGITS = 18;
    private static final int TRIES_WHEN_CLEAR = 1;
    private static final int TRIES_WHEN_MARKED = 3;

    private static final int GOES_ON = 0;
    private static final int PASS_AT_ONCE = 1;
    private static final int PASS_BEHIND_FAILS = 2;
    private static final int FAIL = 3;
    private static final int QUARANTINED = 4;

    private final History[] histories;
    private final Chance chance;
    private int tests;
    private int ruleLevel;
    private int ruleMark;
    private int ruleClear;

    public FlakyBounds() {
        histories = new History[MOST_TESTS];
        chance = new Chance();
        tests = 0;
        ruleLevel = 50;
        ruleMark = 20;
        ruleClear = 5;
    }

    public int test() {
        if (tests >= histories.length) {
            return NONE;
        }
        histories[tests] = new History();
        tests++;
        return tests - 1;
    }

    public boolean rules(int level, int mark, int clear) {
        if (!isLevel(level) || !isShare(mark) || !isShare(clear) || clear > mark) {
            return false;
        }
        ruleLevel = level;
        ruleMark = mark;
        ruleClear = clear;
        return true;
    }

    public boolean run(int test, int edition, boolean pass) {
        History history = find(test);
        if (history == null || !isEdition(edition)) {
            return false;
        }
        take(history, edition, pass);
        return true;
    }

    public int judge(int test, int edition, boolean pass) {
        History history = find(test);
        if (history == null || !isEdition(edition)) {
            return NONE;
        }
        // The verdict goes by the mark before this run, and the run itself may change the mark.
        int verdict = history.nextVerdict(edition, pass);
        take(history, edition, pass);
        return verdict;
    }

    public int about(int test, int what) {
        History history = find(test);
        if (history == null) {
            return NONE;
        }
        switch (what) {
            case 0:
                return history.size;
            case 1:
                return history.doubtful;
            case 2:
                return history.throwsCounted;
            case 3:
                return history.failsCounted;
            case 4:
                return history.marked ? 1 : 0;
            case 5:
                return history.timesMarked;
            default:
                return NONE;
        }
    }

    public int bound(int test, int level, boolean upper) {
        History history = find(test);
        if (history == null || !isLevel(level)) {
            return NONE;
        }
        int n = history.throwsCounted;
        int x = history.failsCounted;
        if (upper) {
            return greatestAbove(n, x, level);
        }
        // X or more hits are N - X or fewer misses, so LOWER is UPPER seen from the misses.
        return THOUSAND - greatestAbove(n, n - x, level);
    }

    public long share(int test, int j, boolean most, int digits) {
        History history = find(test);
        if (history == null || !isShare(j) || digits < 1 || digits > MOST_DIGITS) {
            return -1;
        }
        Decimal likely = most ? atMost(history, j) : atLeast(history, j);
        return likely.cutTo(digits);
    }

    public boolean isBad(int test, int edition) {
        History history = find(test);
        return history != null && history.hasOnlyFails(edition);
    }

    public int broken(int edition) {
        int bits = 0;
        for (int i = 0; i < MOST_TESTS; i++) {
            History history = find(i);
            if (history != null && !history.marked && history.hasOnlyFails(edition)) {
                bits |= 1 << i;
            }
        }
        return bits;
    }

    private History find(int number) {
        if (number < 0 || number >= tests || number >= histories.length) {
            return null;
        }
        return histories[number];
    }

    private static boolean isEdition(int edition) {
        return edition >= 0 && edition < EDITIONS;
    }

    private static boolean isLevel(int level) {
        return level >= 1 && level < THOUSAND;
    }

    private static boolean isShare(int j) {
        return j >= 0 && j <= THOUSAND;
    }

    private void take(History history, int edition, boolean pass) {
        history.add(edition, pass);
        if (history.marked) {
            // AT MOST never rises with j: UPPER is below CLEAR just when CLEAR itself isn't above.
            if (!atMost(history, ruleClear).isAbove(ruleLevel)) {
                history.marked = false;
            }
            return;
        }
        // AT LEAST never falls with j: LOWER is above MARK just when MARK itself isn't above.
        if (!atLeast(history, ruleMark).isAbove(ruleLevel)) {
            history.marked = true;
            history.timesMarked++;
        }
    }

    private Decimal atMost(History history, int j) {
        return chance.upTo(history.throwsCounted, history.failsCounted, j);
    }

    private Decimal atLeast(History history, int j) {
        int passes = history.throwsCounted - history.failsCounted;
        return chance.upTo(history.throwsCounted, passes, THOUSAND - j);
    }

    /** The chance never rises with j and is 1 at j = 0, so the bits of the greatest j are found from the top. */
    private int greatestAbove(int n, int most, int level) {
        int j = 0;
        for (int bit = 512; bit > 0; bit /= 2) {
            if (j + bit <= THOUSAND && chance.upTo(n, most, j + bit).isAbove(level)) {
                j += bit;
            }
        }
        return j;
    }

    /** What is known of one test. */
    private static final class History {
        private final int[] editions;
        private final boolean[] passes;
        private int size;
        private int oldest;
        private int doubtful;
        private int throwsCounted;
        private int failsCounted;
        private boolean marked;
        private int timesMarked;
        private int judgedEdition;
        private int judgedFails;

        History() {
            editions = new int[MOST_RUNS];
            passes = new boolean[MOST_RUNS];
            judgedEdition = NONE;
        }

        void add(int edition, boolean pass) {
            int slot = size;
            if (size < MOST_RUNS) {
                size++;
            } else {
                slot = oldest;
                oldest = oldest + 1 < MOST_RUNS ? oldest + 1 : 0;
            }
            if (slot >= 0 && slot < MOST_RUNS) {
                editions[slot] = edition;
                passes[slot] = pass;
            }
            recount();
        }

        boolean hasOnlyFails(int edition) {
            return has(edition, false) && !has(edition, true);
        }

        int nextVerdict(int edition, boolean pass) {
            if (edition != judgedEdition) {
                judgedEdition = edition;
                judgedFails = 0;
            }
            int verdict = pass ? verdictOfPass() : verdictOfFail();
            judgedFails = verdict == GOES_ON ? judgedFails + 1 : 0;
            return verdict;
        }

        private int verdictOfPass() {
            return judgedFails == 0 ? PASS_AT_ONCE : PASS_BEHIND_FAILS;
        }

        private int verdictOfFail() {
            int tries = marked ? TRIES_WHEN_MARKED : TRIES_WHEN_CLEAR;
            if (judgedFails + 1 < tries) {
                return GOES_ON;
            }
            return marked ? QUARANTINED : FAIL;
        }

        private boolean has(int edition, boolean pass) {
            for (int i = 0; i < size && i < MOST_RUNS; i++) {
                if (editions[i] == edition && passes[i] == pass) {
                    return true;
                }
            }
            return false;
        }

        /** These change with a new run alone, and are asked for far more often. */
        private void recount() {
            doubtful = 0;
            throwsCounted = 0;
            failsCounted = 0;
            for (int i = 0; i < size && i < MOST_RUNS; i++) {
                boolean contradicted = has(editions[i], !passes[i]);
                if (contradicted) {
                    doubtful++;
                }
                // A fail is at a BAD edition just when no pass stands against it; a pass never is.
                if (passes[i] || contradicted) {
                    throwsCounted++;
                }
                if (!passes[i] && contradicted) {
                    failsCounted++;
                }
            }
        }
    }

    /** How likely hits are; its two numbers are made once and used by every call. */
    private static final class Chance {
        private final Decimal sum;
        private final Decimal term;

        Chance() {
            sum = new Decimal();
            term = new Decimal();
        }

        /**
         * How likely at most so many of n throws hit, each with hit / 1000. By Horner's rule: the sum
         * so far, of (n over i) hit^i miss^(k - i), goes from k - 1 to k as it is multiplied by miss
         * and (n over k) hit^k is added. The answer holds until the next call.
         */
        Decimal upTo(int n, int most, int hit) {
            int miss = THOUSAND - hit;
            sum.setThousandths(n);
            term.setThousandths(n);
            for (int k = 1; k <= n && k <= MOST_RUNS; k++) {
                sum.multiply(miss);
                if (k <= most) {
                    term.multiply((n - k + 1) * hit);
                    term.divide(k);
                    sum.add(term);
                }
            }
            return sum;
        }
    }

    /**
     * A number with 144 decimals, enough to tell a sum through 1000^48 exactly, in parts of nine digits,
     * the last decimals first. No part overflows: what a Chance holds is at most 1.001^48, and it is
     * multiplied by at most 48000.
     */
    private static final class Decimal {
        private static final int PARTS = 17;
        private static final int BEFORE_POINT = 16;
        private static final int THOUSANDS_A_PART = 3;
        private static final long BASE = 1000000000L;
        private static final long PART_OF_THOUSANDTH = 1000000L;

        private final long[] parts;

        Decimal() {
            parts = new long[PARTS];
        }

        /** 1 / 1000^n. */
        void setThousandths(int n) {
            for (int i = 0; i < PARTS; i++) {
                parts[i] = 0;
            }
            int thousands = MOST_RUNS - n;
            int part = thousands / THOUSANDS_A_PART;
            if (thousands < 0 || part >= PARTS) {
                return;
            }
            parts[part] = 1;
            for (int i = 0; i < thousands % THOUSANDS_A_PART; i++) {
                parts[part] *= THOUSAND;
            }
        }

        void multiply(int factor) {
            long carry = 0;
            for (int i = 0; i < PARTS; i++) {
                long product = parts[i] * factor + carry;
                carry = product / BASE;
                parts[i] = product - carry * BASE;
            }
        }

        /** Only used where nothing is left over. */
        void divide(int divisor) {
            if (divisor <= 0) {
                return;
            }
            long rest = 0;
            for (int i = PARTS - 1; i >= 0; i--) {
                long dividend = rest * BASE + parts[i];
                parts[i] = dividend / divisor;
                rest = dividend - parts[i] * divisor;
            }
        }

        void add(Decimal other) {
            if (other == null) {
                return;
            }
            long carry = 0;
            for (int i = 0; i < PARTS; i++) {
                long total = parts[i] + other.parts[i] + carry;
                carry = total >= BASE ? 1 : 0;
                parts[i] = total - carry * BASE;
            }
        }

        boolean isAbove(int thousandths) {
            if (parts[BEFORE_POINT] > 0) {
                return true;
            }
            long first = parts[BEFORE_POINT - 1];
            long limit = thousandths * PART_OF_THOUSANDTH;
            if (first != limit) {
                return first > limit;
            }
            for (int i = 0; i < BEFORE_POINT - 1; i++) {
                if (parts[i] != 0) {
                    return true;
                }
            }
            return false;
        }

        long cutTo(int digits) {
            long number = (parts[BEFORE_POINT] * BASE + parts[BEFORE_POINT - 1]) * BASE + parts[BEFORE_POINT - 2];
            for (int i = digits; i < MOST_DIGITS; i++) {
                number /= 10;
            }
            return number;
        }
    }
}
