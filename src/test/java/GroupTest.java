/** Promises 2 (begin) and 3 (member) over whole ranges of numbers; their edges are in GroupEdgesTest. */
public final class GroupTest {
    private static final Checks CHECKS = new Checks();

    public static void main(String[] args) {
        beginTakesGroups();
        beginOverAllSmallNumbers();
        beginOverLargeNumbers();
        memberOverSmallGroups();
        CHECKS.end();
    }

    private static void beginTakesGroups() {
        CHECKS.promise(2, "THE GROUP has p and g from now on");
        int[][] groups = {
            {5, 4}, {7, 2}, {7, 4}, {11, 3}, {23, 2}, {23, 18}, {47, 2}, {19583, 4}, {20123, 4}, {999959, 9},
            {2147483123, 4}, {2147483579, 4}, {2147483579, 9}};
        ProofDesk desk = new ProofDesk();
        for (int[] group : groups) {
            String call = "begin(" + group[0] + ", " + group[1] + ")";
            CHECKS.due(true, call, () -> desk.begin(group[0], group[1]));
            CHECKS.group(desk, group[0], group[1], "after " + call);
        }
    }

    private static void beginOverAllSmallNumbers() {
        CHECKS.promise(2, "False if they are not as said above");
        for (int p = -3; p <= 400; p++) {
            ProofDesk desk = new ProofDesk();
            for (int g = -2; g <= p + 2; g++) {
                int prime = p;
                int generator = g;
                boolean want = isSafePrime(p) && g != 1 && isSquare(g, p);
                CHECKS.due(want, "begin(" + p + ", " + g + ")", () -> desk.begin(prime, generator));
            }
        }
    }

    /** By 4, a MEMBER of every group that has room for it, so that the prime alone decides. */
    private static void beginOverLargeNumbers() {
        CHECKS.promise(2, "False if they are not as said above");
        int[] starts = {3_000, 19_000, 46_340 * 2, 1_000_000, 2_146_654_000, 2_147_116_900, Checks.MOST - 1_499};
        for (int start : starts) {
            for (int i = 0; i < 1500; i++) {
                int p = start + i;
                CHECKS.due(isSafePrime(p), "begin(" + p + ", 4)", () -> new ProofDesk().begin(p, 4));
            }
        }
    }

    private static void memberOverSmallGroups() {
        CHECKS.promise(3, "Whether it is a MEMBER");
        int[][] groups = {{5, 4}, {7, 2}, {11, 3}, {23, 2}, {47, 2}, {59, 3}, {83, 3}, {107, 3}, {167, 2}};
        for (int[] group : groups) {
            ProofDesk desk = CHECKS.desk(group[0], group[1]);
            for (int y = -group[0]; y <= 2 * group[0] - 1; y++) {
                int number = y;
                String call = "modulo " + group[0] + " member(" + y + ")";
                CHECKS.due(isSquare(y, group[0]), call, () -> desk.member(number));
            }
        }
    }

    private static boolean isSafePrime(int p) {
        return p >= 5 && isPrime(p) && p % 2 == 1 && isPrime((p - 1) / 2);
    }

    private static boolean isPrime(int n) {
        return n >= 2 && Checks.big(n).isProbablePrime(60);
    }

    private static boolean isSquare(int y, int p) {
        boolean found = false;
        for (int root = 1; root < p; root++) {
            found |= root * root % p == y;
        }
        return found && y >= 1;
    }
}
