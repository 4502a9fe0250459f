/**
 * The boundary cases that the document names for promises 4 (product), 5 (power), 6 (inverse) and
 * 7 (log), sentence by sentence.
 */
public final class ArithmeticEdgesTest {
    private static final Checks CHECKS = new Checks();
    private static final int MOST = Checks.MOST;
    private static final int LEAST = Checks.LEAST;
    private static final int LARGE = Checks.LARGE;
    /** Groups (p and g): the smallest, the next, the first of an object, the largest. */
    private static final int[][] GROUPS = {{5, 4}, {7, 2}, {23, 2}, {LARGE, 4}};

    public static void main(String[] args) {
        for (int[] group : GROUPS) {
            productOfLeastAndMost(group[0], group[1]);
            productRefuses(group[0], group[1]);
            powerOfLeastAndMost(group[0], group[1]);
            powerRefuses(group[0], group[1]);
            inverseOfLeastAndMost(group[0], group[1]);
            inverseRefuses(group[0], group[1]);
        }
        productPassesTheLargestInt();
        powerOfZero();
        powerPassesTheLargestInt();
        inverseInTheLargestGroup();
        logOfLeastAndMost();
        logRefuses();
        logOfLargeGroups();
        logWhereBothExceptionsFit();
        CHECKS.end();
    }

    private static void productOfLeastAndMost(int p, int g) {
        CHECKS.promise(4, "a * b, of numbers 0 to p - 1");
        product(p, g, 0, 0, 0);
        product(p, g, 0, p - 1, 0);
        product(p, g, p - 1, 0, 0);
        product(p, g, 1, p - 1, p - 1);
        product(p, g, p - 1, 1, p - 1);
        product(p, g, p - 1, p - 1, 1);
        product(p, g, p - 2, p - 1, 2);
        product(p, g, (p - 1) / 2, 2, p - 1);
        product(p, g, (p + 1) / 2, 2, 1);
    }

    private static void productRefuses(int p, int g) {
        CHECKS.promise(4, "IllegalArgumentException: one of them is not 0 to p - 1");
        for (int wrong : new int[] {LEAST, 1 - p, -1, p, p + 1, MOST}) {
            for (int right : new int[] {0, 1, p - 1}) {
                product(p, g, wrong, right, Checks.ARGUMENT);
                product(p, g, right, wrong, Checks.ARGUMENT);
            }
            product(p, g, wrong, wrong, Checks.ARGUMENT);
            product(p, g, wrong, -1, Checks.ARGUMENT);
            product(p, g, p, wrong, Checks.ARGUMENT);
        }
    }

    private static void productPassesTheLargestInt() {
        CHECKS.promise(4, "a * b, where the product before the modulus passes the largest int");
        product(LARGE, 4, 46340, 46340, 2147395600);
        product(LARGE, 4, 46341, 46341, 4702);
        product(LARGE, 4, 2, 1073741789, LARGE - 1);
        product(LARGE, 4, 2, 1073741790, 1);
        product(LARGE, 4, 2, 1073741824, 69);
        product(LARGE, 4, 65536, 32768, 69);
        product(LARGE, 4, 65536, 65536, 138);
        product(LARGE, 4, 1073741824, 1073741824, Checks.raised(2, 60, LARGE));
        product(LARGE, 4, LARGE - 2, LARGE - 2, 4);
        // the sum of the two passes it, too
        product(LARGE, 4, LARGE - 1, LARGE - 3, 3);
    }

    private static void product(int p, int g, int a, int b, Object want) {
        CHECKS.in(p, g, want, "product(" + a + ", " + b + ")", desk -> desk.product(a, b));
    }

    private static void powerOfLeastAndMost(int p, int g) {
        CHECKS.promise(5, "a ** e, a from 0 to p - 1 and e from 0");
        for (int a : new int[] {0, 1, 2, p - 2, p - 1}) {
            power(p, g, a, 0, 1);
            power(p, g, a, 1, a);
            for (long e : new long[] {2, p - 2, p - 1, p, Long.MAX_VALUE - 1, Long.MAX_VALUE}) {
                power(p, g, a, e, Checks.raised(a, e, p));
            }
        }
        power(p, g, g, (p - 1) / 2, 1);
        power(p, g, p - 1, Long.MAX_VALUE, p - 1);
        power(p, g, p - 1, Long.MAX_VALUE - 1, 1);
    }

    private static void powerRefuses(int p, int g) {
        CHECKS.promise(5, "IllegalArgumentException: a is not 0 to p - 1");
        for (int wrong : new int[] {LEAST, -1, p, p + 1, MOST}) {
            for (long e : new long[] {0, 1, 2, Long.MAX_VALUE}) {
                power(p, g, wrong, e, Checks.ARGUMENT);
            }
        }
        CHECKS.promise(5, "IllegalArgumentException: e is below 0");
        for (int a : new int[] {0, 1, 2, p - 1}) {
            // -4294967295 is 1 when it is taken as an int, -4294967296 is 0
            for (long e : new long[] {Long.MIN_VALUE, -4294967296L, -4294967295L, LEAST, -2, -1}) {
                power(p, g, a, e, Checks.ARGUMENT);
            }
        }
        CHECKS.promise(5, "IllegalArgumentException: a is not 0 to p - 1, and e is below 0");
        power(p, g, -1, -1, Checks.ARGUMENT);
        power(p, g, p, -1, Checks.ARGUMENT);
        power(p, g, LEAST, Long.MIN_VALUE, Checks.ARGUMENT);
    }

    private static void powerOfZero() {
        CHECKS.promise(5, "(0 ** 0 is 1.)");
        for (int[] group : GROUPS) {
            power(group[0], group[1], 0, 0, 1);
            for (long e : new long[] {1, 2, group[0] - 1, group[0], 4294967296L, Long.MAX_VALUE}) {
                power(group[0], group[1], 0, e, 0);
            }
        }
    }

    private static void powerPassesTheLargestInt() {
        CHECKS.promise(5, "a ** e, where e or a product on the way passes the largest int");
        power(LARGE, 4, 2, 30, 1073741824);
        power(LARGE, 4, 2, 31, 69);
        power(LARGE, 4, 2, 32, 138);
        power(LARGE, 4, 2, 62, 4761);
        // taken as ints these would be below 0, 0 and 1
        power(23, 2, 2, 2147483648L, 4);
        power(23, 2, 2, 4294967296L, 16);
        power(23, 2, 5, 4294967297L, 20);
        power(LARGE, 4, 2, 2147483648L, Checks.raised(2, 2147483648L, LARGE));
        power(LARGE, 4, LARGE - 2, 4611686018427387904L, Checks.raised(LARGE - 2, 4611686018427387904L, LARGE));
    }

    private static void power(int p, int g, int a, long e, Object want) {
        CHECKS.in(p, g, want, "power(" + a + ", " + e + ")", desk -> desk.power(a, e));
    }

    private static void inverseOfLeastAndMost(int p, int g) {
        CHECKS.promise(6, "The number b from 1 to p - 1 with a * b = 1");
        inverse(p, g, 1, 1);
        inverse(p, g, p - 1, p - 1);
        inverse(p, g, 2, (p + 1) / 2);
        inverse(p, g, p - 2, (p - 1) / 2);
        inverse(p, g, (p + 1) / 2, 2);
        inverse(p, g, (p - 1) / 2, p - 2);
    }

    private static void inverseRefuses(int p, int g) {
        CHECKS.promise(6, "IllegalArgumentException: a is not 1 to p - 1");
        for (int wrong : new int[] {LEAST, -p, 1 - p, -1, 0, p, p + 1, MOST}) {
            inverse(p, g, wrong, Checks.ARGUMENT);
        }
    }

    private static void inverseInTheLargestGroup() {
        CHECKS.promise(6, "The number b from 1 to p - 1 with a * b = 1, in the largest group");
        for (int a : new int[] {3, 46341, 65536, 1073741824, 2000000000, LARGE - 3}) {
            int want = Checks.big(a).modInverse(Checks.big(LARGE)).intValue();
            inverse(LARGE, 4, a, want);
            product(LARGE, 4, a, want, 1);
        }
    }

    private static void inverse(int p, int g, int a, Object want) {
        CHECKS.in(p, g, want, "inverse(" + a + ")", desk -> desk.inverse(a));
    }

    /** The least EXPONENT is of 1, the largest of the inverse of g. */
    private static void logOfLeastAndMost() {
        CHECKS.promise(7, "The EXPONENT x with g ** x = y");
        int[][] groups = {{5, 4}, {7, 2}, {7, 4}, {11, 9}, {23, 2}, {23, 18}, {19583, 4}, {19583, 9}};
        for (int[] group : groups) {
            int p = group[0];
            int g = group[1];
            int q = (p - 1) / 2;
            log(p, g, 1, 0);
            log(p, g, g, 1);
            log(p, g, Checks.raised(g, q - 2, p), q - 2);
            log(p, g, Checks.raised(g, q - 1, p), q - 1);
        }
    }

    private static void logRefuses() {
        CHECKS.promise(7, "IllegalArgumentException: y is no MEMBER");
        for (int y : new int[] {LEAST, -21, -1, 0, 5, 22, 23, 24, 25, MOST}) {
            log(23, 2, y, Checks.ARGUMENT);
        }
        for (int y : new int[] {-1, 0, 2, 3, 5, 6, 9}) {
            log(5, 4, y, Checks.ARGUMENT);
        }
        for (int y : new int[] {-1, 0, 19582, 19583, 19584}) {
            log(19583, 4, y, Checks.ARGUMENT);
        }
    }

    /** 19583 is the largest p that is not above 20000, 20123 the smallest that is. */
    private static void logOfLargeGroups() {
        CHECKS.promise(7, "IllegalStateException: p is above 20000");
        log(19583, 4, 16, 2);
        for (int p : new int[] {20123, 20183, 999959, LARGE}) {
            log(p, 4, 1, Checks.STATE);
            log(p, 4, 4, Checks.STATE);
            log(p, 4, Checks.raised(4, (p - 3) / 2, p), Checks.STATE);
        }
        ProofDesk desk = CHECKS.desk(20123, 4);
        CHECKS.due(Checks.STATE, "log(4) in the group 20123", () -> desk.log(4));
        CHECKS.due(true, "begin(19583, 4) after it", () -> desk.begin(19583, 4));
        CHECKS.due(1, "log(4) in the group 19583", () -> desk.log(4));
    }

    private static void logWhereBothExceptionsFit() {
        CHECKS.promise(7, "the first of them that fits is thrown: y is no MEMBER, and p is above 20000");
        for (int p : new int[] {20123, 999959, LARGE}) {
            for (int y : new int[] {LEAST, 4 - p, -1, 0, p - 1, p, p + 1, p + 4, MOST}) {
                log(p, 4, y, Checks.ARGUMENT);
            }
        }
        log(LARGE, 4, 2, Checks.ARGUMENT);
    }

    private static void log(int p, int g, int y, Object want) {
        CHECKS.in(p, g, want, "log(" + y + ")", desk -> desk.log(y));
    }
}
