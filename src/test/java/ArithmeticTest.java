import java.math.BigInteger;

/**
 * Promises 4 (product), 5 (power), 6 (inverse) and 7 (log) over whole groups and over large numbers;
 * their edges are in ArithmeticEdgesTest.
 */
public final class ArithmeticTest {
    private static final Checks CHECKS = new Checks();
    private static final int LARGE = Checks.LARGE;

    public static void main(String[] args) {
        for (int[] group : new int[][] {{5, 4}, {7, 4}, {11, 3}, {23, 2}}) {
            smallProducts(group[0], group[1]);
            smallPowers(group[0], group[1]);
            smallInverses(group[0], group[1]);
        }
        largeProducts();
        largePowers();
        largeInverses();
        logOverWholeGroups();
        CHECKS.end();
    }

    private static void smallProducts(int p, int g) {
        CHECKS.promise(4, "a * b");
        for (int i = 0; i < p * p; i++) {
            int a = i / p;
            int b = i % p;
            String call = "modulo " + p + " product(" + a + ", " + b + ")";
            CHECKS.due(a * b % p, call, () -> CHECKS.desk(p, g).product(a, b));
        }
    }

    private static void smallPowers(int p, int g) {
        CHECKS.promise(5, "a ** e");
        for (int i = 0; i < p; i++) {
            int a = i;
            int raised = 1;
            for (int j = 0; j < 2 * p; j++) {
                int e = j;
                String call = "modulo " + p + " power(" + a + ", " + e + ")";
                CHECKS.due(raised, call, () -> CHECKS.desk(p, g).power(a, e));
                raised = raised * a % p;
            }
        }
    }

    private static void smallInverses(int p, int g) {
        CHECKS.promise(6, "The number b from 1 to p - 1 with a * b = 1");
        for (int i = 0; i < p * p; i++) {
            int a = i / p;
            int b = i % p;
            if (a * b % p == 1) {
                CHECKS.due(b, "modulo " + p + " inverse(" + a + ")", () -> CHECKS.desk(p, g).inverse(a));
            }
        }
    }

    private static void largeProducts() {
        CHECKS.promise(4, "a * b");
        ProofDesk desk = CHECKS.desk(LARGE, 4);
        int[] numbers = {0, 1, 2, 46341, 65536, 1073741789, 2000000000, LARGE - 2, LARGE - 1};
        for (int a : numbers) {
            for (int b : numbers) {
                BigInteger want = Checks.big(a).multiply(Checks.big(b)).mod(Checks.big(LARGE));
                CHECKS.due(want, "product(" + a + ", " + b + ")", () -> desk.product(a, b));
            }
        }
    }

    private static void largePowers() {
        CHECKS.promise(5, "a ** e");
        long[] exponents = {
            0, 1, 2, 63, 1073741788, 1073741789, 2147483578, 2147483579, 2147483648L, 4294967296L, 4294967297L,
            1L << 62, Long.MAX_VALUE - 1, Long.MAX_VALUE};
        for (int p : new int[] {5, 23, 19583, LARGE}) {
            ProofDesk desk = CHECKS.desk(p, 4);
            for (int a : new int[] {0, 1, 2, 3, p / 2, p - 2, p - 1}) {
                for (long e : exponents) {
                    String call = "modulo " + p + " power(" + a + ", " + e + ")";
                    CHECKS.due(Checks.raised(a, e, p), call, () -> desk.power(a, e));
                }
            }
        }
    }

    private static void largeInverses() {
        CHECKS.promise(6, "The number b from 1 to p - 1 with a * b = 1");
        for (int p : new int[] {5, 19583, 999959, LARGE}) {
            ProofDesk desk = CHECKS.desk(p, 4);
            for (int a : new int[] {1, 2, 3, 4, p / 2, p / 2 + 1, p - 2, p - 1}) {
                BigInteger want = Checks.big(a).modInverse(Checks.big(p));
                CHECKS.due(want, "modulo " + p + " inverse(" + a + ")", () -> desk.inverse(a));
            }
        }
    }

    private static void logOverWholeGroups() {
        CHECKS.promise(7, "The EXPONENT x with g ** x = y");
        int[][] groups = {{5, 4}, {7, 2}, {7, 4}, {11, 9}, {23, 2}, {23, 18}, {47, 3}, {167, 4}, {839, 9}};
        for (int[] group : groups) {
            ProofDesk desk = CHECKS.desk(group[0], group[1]);
            int y = 1;
            for (int i = 0; i < (group[0] - 1) / 2; i++) {
                int number = y;
                CHECKS.due(i, "modulo " + group[0] + " log(" + y + ")", () -> desk.log(number));
                y = y * group[1] % group[0];
            }
        }
    }
}
