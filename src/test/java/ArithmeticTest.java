import java.math.BigInteger;

/** Promises 4 (product), 5 (power), 6 (inverse) and 7 (log). */
public final class ArithmeticTest {
    private static final Checks CHECKS = new Checks();
    private static final int MOST = Integer.MAX_VALUE;
    private static final int LEAST = Integer.MIN_VALUE;
    private static final int LARGE = 2147483579;

    public static void main(String[] args) {
        smallGroups();
        productOfLargeNumbers();
        productRefuses();
        powerOfLargeNumbers();
        powerRefuses();
        inverseOfLargeNumbers();
        inverseRefuses();
        logOverWholeGroups();
        logAtItsLimit();
        logRefuses();
        CHECKS.end();
    }

    private static void smallGroups() {
        for (int[] group : new int[][] {{5, 4}, {7, 4}, {11, 3}, {23, 2}}) {
            int p = group[0];
            for (int a = 0; a < p; a++) {
                smallProductsAndPowers(CHECKS.desk(p, group[1]), p, a);
            }
        }
    }

    private static void smallProductsAndPowers(ProofDesk desk, int p, int a) {
        int raised = 1;
        for (int i = 0; i < p; i++) {
            int b = i;
            CHECKS.due(a * b % p, "modulo " + p + " product(" + a + ", " + b + ")", () -> desk.product(a, b));
            CHECKS.due(raised, "modulo " + p + " power(" + a + ", " + b + ")", () -> desk.power(a, b));
            if (a * b % p == 1) {
                CHECKS.due(b, "modulo " + p + " inverse(" + a + ")", () -> desk.inverse(a));
            }
            raised = raised * a % p;
        }
    }

    private static void productOfLargeNumbers() {
        ProofDesk desk = CHECKS.desk(LARGE, 4);
        int[] numbers = {0, 1, 2, 46341, 65536, 1073741789, 2000000000, LARGE - 2, LARGE - 1};
        for (int a : numbers) {
            for (int b : numbers) {
                BigInteger want = big(a).multiply(big(b)).mod(big(LARGE));
                CHECKS.due(want, "product(" + a + ", " + b + ")", () -> desk.product(a, b));
            }
        }
    }

    private static void productRefuses() {
        ProofDesk desk = new ProofDesk();
        for (int wrong : new int[] {LEAST, -1, 23, 24, MOST}) {
            CHECKS.due(Checks.ARGUMENT, "product(" + wrong + ", 1)", () -> desk.product(wrong, 1));
            CHECKS.due(Checks.ARGUMENT, "product(1, " + wrong + ")", () -> desk.product(1, wrong));
            CHECKS.due(Checks.ARGUMENT, "product(0, " + wrong + ")", () -> desk.product(0, wrong));
            CHECKS.due(Checks.ARGUMENT, "product twice " + wrong, () -> desk.product(wrong, wrong));
        }
        CHECKS.due(1, "product(22, 22)", () -> desk.product(22, 22));
        CHECKS.group(desk, 23, 2, "after product threw");
        ProofDesk large = CHECKS.desk(LARGE, 4);
        CHECKS.due(Checks.ARGUMENT, "product(LARGE, 1)", () -> large.product(LARGE, 1));
        CHECKS.due(Checks.ARGUMENT, "product(1, MOST)", () -> large.product(1, MOST));
    }

    private static void powerOfLargeNumbers() {
        long[] exponents = {
            0, 1, 2, 63, 1073741788, 1073741789, 2147483578, 2147483579, 2147483648L, 4294967296L, 4294967297L,
            1L << 62, Long.MAX_VALUE - 1, Long.MAX_VALUE};
        for (int p : new int[] {5, 23, 19583, LARGE}) {
            ProofDesk desk = CHECKS.desk(p, 4);
            for (int a : new int[] {0, 1, 2, 3, p / 2, p - 2, p - 1}) {
                for (long e : exponents) {
                    BigInteger want = big(a).modPow(BigInteger.valueOf(e), big(p));
                    CHECKS.due(want, "modulo " + p + " power(" + a + ", " + e + ")", () -> desk.power(a, e));
                }
            }
        }
    }

    private static void powerRefuses() {
        ProofDesk desk = new ProofDesk();
        for (int wrong : new int[] {LEAST, -1, 23, 24, MOST}) {
            for (long e : new long[] {-1, 0, 1, 5}) {
                CHECKS.due(Checks.ARGUMENT, "power(" + wrong + ", " + e + ")", () -> desk.power(wrong, e));
            }
        }
        for (long e : new long[] {-1, -11, -4294967295L, LEAST, Long.MIN_VALUE}) {
            for (int a : new int[] {0, 1, 2, 22}) {
                CHECKS.due(Checks.ARGUMENT, "power(" + a + ", " + e + ")", () -> desk.power(a, e));
            }
        }
        CHECKS.group(desk, 23, 2, "after power threw");
    }

    private static void inverseOfLargeNumbers() {
        for (int p : new int[] {5, 19583, 999959, LARGE}) {
            ProofDesk desk = CHECKS.desk(p, 4);
            for (int a : new int[] {1, 2, 3, 4, p / 2, p / 2 + 1, p - 2, p - 1}) {
                BigInteger want = big(a).modInverse(big(p));
                CHECKS.due(want, "modulo " + p + " inverse(" + a + ")", () -> desk.inverse(a));
            }
        }
    }

    private static void inverseRefuses() {
        ProofDesk desk = new ProofDesk();
        for (int wrong : new int[] {LEAST, -1, 0, 23, 24, 46, MOST}) {
            CHECKS.due(Checks.ARGUMENT, "inverse(" + wrong + ")", () -> desk.inverse(wrong));
        }
        CHECKS.group(desk, 23, 2, "after inverse threw");
    }

    private static void logOverWholeGroups() {
        int[][] groups = {{5, 4}, {7, 2}, {7, 4}, {11, 9}, {23, 2}, {23, 18}, {47, 3}, {167, 4}, {839, 9}};
        for (int[] group : groups) {
            ProofDesk desk = CHECKS.desk(group[0], group[1]);
            int y = 1;
            for (int i = 0; i < (group[0] - 1) / 2; i++) {
                int number = y;
                CHECKS.due(i, "modulo " + group[0] + " log(" + y + ")", () -> desk.log(number));
                y = y * group[1] % group[0];
            }
        }
    }

    /** 19583 is the last p that log takes, 20123 the first that it does not. */
    private static void logAtItsLimit() {
        ProofDesk under = CHECKS.desk(19583, 4);
        for (int x : new int[] {0, 1, 2, 5000, 9789, 9790}) {
            int y = big(4).modPow(big(x), big(19583)).intValue();
            CHECKS.due(x, "modulo 19583 log(" + y + ")", () -> under.log(y));
        }
        for (int p : new int[] {20123, 999959, LARGE}) {
            ProofDesk over = CHECKS.desk(p, 4);
            CHECKS.due(Checks.STATE, "modulo " + p + " log(1)", () -> over.log(1));
            CHECKS.due(Checks.STATE, "modulo " + p + " log(4)", () -> over.log(4));
            // both exceptions fit: the first that the heading names is thrown
            for (int y : new int[] {LEAST, -1, 0, p - 1, p, MOST}) {
                CHECKS.due(Checks.ARGUMENT, "modulo " + p + " log(" + y + ")", () -> over.log(y));
            }
            CHECKS.group(over, p, 4, "after log threw");
        }
    }

    private static void logRefuses() {
        ProofDesk desk = new ProofDesk();
        for (int y : new int[] {LEAST, -1, 0, 5, 7, 22, 23, 24, 25, MOST}) {
            CHECKS.due(Checks.ARGUMENT, "log(" + y + ")", () -> desk.log(y));
        }
        CHECKS.group(desk, 23, 2, "after log threw");
    }

    private static BigInteger big(int n) {
        return BigInteger.valueOf(n);
    }
}
