import java.math.BigInteger;

/** Promises 1 (A new object), 2 (begin), 3 (member) and 12 (count). */
public final class GroupTest {
    private static final Checks CHECKS = new Checks();
    private static final int MOST = Integer.MAX_VALUE;
    private static final int LEAST = Integer.MIN_VALUE;

    public static void main(String[] args) {
        newObject();
        beginTakesGroups();
        beginRefusesAndChangesNothing();
        beginOverAllSmallNumbers();
        beginOverLargeNumbers();
        memberOverSmallGroups();
        memberAtTheEdges();
        count();
        objectsAreApart();
        CHECKS.end();
    }

    private static void newObject() {
        ProofDesk desk = new ProofDesk();
        CHECKS.group(desk, 23, 2, "new");
        CHECKS.due(true, "new: member(18)", () -> desk.member(18));
        CHECKS.due(10, "new: log(12)", () -> desk.log(12));
    }

    private static void beginTakesGroups() {
        int[][] groups = {
            {5, 4}, {7, 2}, {7, 4}, {11, 3}, {23, 2}, {23, 18}, {47, 2}, {19583, 4}, {20123, 4}, {999959, 9},
            {2147483579, 4}, {2147483579, 9}};
        ProofDesk desk = new ProofDesk();
        for (int[] group : groups) {
            String call = "begin(" + group[0] + ", " + group[1] + ")";
            CHECKS.due(true, call, () -> desk.begin(group[0], group[1]));
            CHECKS.group(desk, group[0], group[1], "after " + call);
        }
    }

    private static void beginRefusesAndChangesNothing() {
        int[][] wrong = {
            // below 5, and no number at all that could be a prime
            {LEAST, 4}, {-23, 2}, {-1, 1}, {0, 0}, {1, 0}, {1, 1}, {2, 1}, {3, 1}, {3, 2}, {4, 1}, {4, 3},
            // p is a prime, q is none
            {13, 3}, {17, 4}, {19, 4}, {29, 4}, {31, 4}, {101, 4}, {MOST, 4}, {MOST, 2},
            // the same, and both factors of q lie near its root
            {2138971907, 4}, {2136616403, 4}, {2126824199, 4},
            // q is a prime, p is none; both are none; p is even
            {15, 4}, {27, 4}, {35, 4}, {9, 4}, {2047, 4}, {3215031, 4}, {2147483577, 4}, {6, 5}, {8, 3}, {24, 2},
            // the squares of primes and the product of two near the root of the largest int
            {25, 4}, {49, 4}, {2147117569, 4}, {2146654199, 4}, {1073676289, 4},
            // no generator
            {23, 1}, {23, 0}, {23, -1}, {23, 22}, {23, 5}, {23, 23}, {23, 24}, {23, 25}, {23, 48}, {23, -21},
            {23, LEAST}, {23, MOST}, {5, 1}, {5, 2}, {5, 3}, {5, 5}, {5, 9}, {7, 1}, {7, 6},
            {2147483579, 1}, {2147483579, 2147483578}, {2147483579, 2147483579}, {2147483579, 2147483583},
            {2147483579, 0}, {2147483579, -4}};
        ProofDesk desk = CHECKS.desk(47, 3);
        for (int[] pair : wrong) {
            String call = "begin(" + pair[0] + ", " + pair[1] + ")";
            CHECKS.due(false, call, () -> desk.begin(pair[0], pair[1]));
            CHECKS.group(desk, 47, 3, "after " + call);
        }
    }

    private static void beginOverAllSmallNumbers() {
        for (int p = -3; p <= 400; p++) {
            ProofDesk desk = new ProofDesk();
            for (int g = -2; g <= p + 2; g++) {
                int prime = p;
                int generator = g;
                boolean want = isSafePrime(p) && g != 1 && isSquare(g, p);
                CHECKS.due(want, "begin(" + p + ", " + g + ")", () -> desk.begin(prime, generator));
            }
        }
    }

    /** By 4, a MEMBER of every group that has room for it, so that the prime alone decides. */
    private static void beginOverLargeNumbers() {
        int[] starts = {3_000, 19_000, 46_340 * 2, 1_000_000, 2_146_654_000, 2_147_116_900, MOST - 1_499};
        for (int start : starts) {
            for (int i = 0; i < 1500; i++) {
                int p = start + i;
                CHECKS.due(isSafePrime(p), "begin(" + p + ", 4)", () -> new ProofDesk().begin(p, 4));
            }
        }
    }

    private static void memberOverSmallGroups() {
        int[][] groups = {{5, 4}, {7, 2}, {11, 3}, {23, 2}, {47, 2}, {59, 3}, {83, 3}, {107, 3}, {167, 2}};
        for (int[] group : groups) {
            ProofDesk desk = CHECKS.desk(group[0], group[1]);
            for (int y = -group[0]; y <= 2 * group[0] - 1; y++) {
                int number = y;
                String call = "modulo " + group[0] + " member(" + y + ")";
                CHECKS.due(isSquare(y, group[0]), call, () -> desk.member(number));
            }
        }
    }

    private static void memberAtTheEdges() {
        ProofDesk small = new ProofDesk();
        ProofDesk large = CHECKS.desk(2147483579, 4);
        for (int y : new int[] {LEAST, -1, 0, 23, 24, 25, MOST}) {
            CHECKS.due(false, "member(" + y + ")", () -> small.member(y));
        }
        for (int y : new int[] {LEAST, -4, 0, 2147483578, 2147483579, 2147483580, 2147483583, MOST}) {
            CHECKS.due(false, "large member(" + y + ")", () -> large.member(y));
        }
        for (int y : new int[] {1, 4, 9, 2147395600}) {
            CHECKS.due(true, "large member(" + y + ")", () -> large.member(y));
        }
    }

    private static void count() {
        ProofDesk desk = CHECKS.desk(2147483579, 9);
        CHECKS.group(desk, 2147483579, 9, "large");
        for (int what : new int[] {LEAST, -1, 3, 4, MOST}) {
            CHECKS.due(Checks.ARGUMENT, "count(" + what + ")", () -> desk.count(what));
        }
        CHECKS.group(desk, 2147483579, 9, "after what throws");
    }

    private static void objectsAreApart() {
        ProofDesk first = CHECKS.desk(47, 2);
        ProofDesk second = CHECKS.desk(7, 2);
        CHECKS.group(first, 47, 2, "first of two");
        CHECKS.group(second, 7, 2, "second of two");
        CHECKS.group(new ProofDesk(), 23, 2, "third");
    }

    private static boolean isSafePrime(int p) {
        return p >= 5 && isPrime(p) && p % 2 == 1 && isPrime((p - 1) / 2);
    }

    private static boolean isPrime(int n) {
        return n >= 2 && BigInteger.valueOf(n).isProbablePrime(60);
    }

    private static boolean isSquare(int y, int p) {
        boolean found = false;
        for (int root = 1; root < p; root++) {
            found |= root * root % p == y;
        }
        return found && y >= 1;
    }
}
