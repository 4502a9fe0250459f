/**
 * The boundary cases that the document names for promises 1 (A new object), 2 (begin), 3 (member) and
 * 12 (count), sentence by sentence, and for how many calls an object is used.
 */
public final class GroupEdgesTest {
    private static final Checks CHECKS = new Checks();
    private static final int MOST = Checks.MOST;
    private static final int LEAST = Checks.LEAST;
    private static final int LARGE = Checks.LARGE;

    public static void main(String[] args) {
        newObject();
        newObjectsAreApart();
        smallestPrime();
        largestPrime();
        primeWithoutPrimeHalf();
        primeHalfOfNoPrime();
        generatorAtItsEdges();
        groupFromNowOn();
        memberInTheSmallestGroup();
        memberInTheFirstGroup();
        memberInTheLargestGroup();
        countOfOthers();
        allItsCalls();
        CHECKS.end();
    }

    private static void newObject() {
        CHECKS.promise(1, "At first p is 23, g is 2");
        ProofDesk desk = new ProofDesk();
        CHECKS.due(23, "new: count(0)", () -> desk.count(0));
        CHECKS.due(11, "new: count(1)", () -> desk.count(1));
        CHECKS.due(2, "new: count(2)", () -> desk.count(2));
        CHECKS.due(1, "new: product(22, 22)", () -> desk.product(22, 22));
        CHECKS.due(Checks.ARGUMENT, "new: product(23, 22)", () -> desk.product(23, 22));
        CHECKS.due(0, "new: answer(10, 10, 10)", () -> desk.answer(10, 10, 10));
        CHECKS.due(Checks.ARGUMENT, "new: answer(11, 10, 10)", () -> desk.answer(11, 10, 10));
        CHECKS.due(0, "new: log(1)", () -> desk.log(1));
        CHECKS.due(1, "new: log(2)", () -> desk.log(2));
        CHECKS.due(10, "new: log(12)", () -> desk.log(12));
        CHECKS.due(Checks.ARGUMENT, "new: log(22)", () -> desk.log(22));
    }

    private static void newObjectsAreApart() {
        CHECKS.promise(1, "each object has a group of its own");
        ProofDesk first = CHECKS.desk(47, 2);
        ProofDesk second = CHECKS.desk(7, 2);
        ProofDesk third = new ProofDesk();
        CHECKS.group(first, 47, 2, "first of three");
        CHECKS.group(second, 7, 2, "second of three");
        CHECKS.group(third, 23, 2, "third of three");
    }

    private static void smallestPrime() {
        CHECKS.promise(2, "p is 5 at least");
        taken(5, 4);
        taken(7, 2);
        taken(7, 4);
        for (int p : new int[] {LEAST, LEAST + 1, -23, -7, -5, -1, 0, 1, 2, 3, 4, 6}) {
            for (int g = -1; g <= 6; g++) {
                refused(p, g);
            }
            refused(p, p - 1);
        }
    }

    /** The largest int is a prime, but 2 ** 30 - 1 is none; LARGE is the last with which all is right. */
    private static void largestPrime() {
        CHECKS.promise(2, "p is 2147483647 at most");
        taken(LARGE, 4);
        taken(LARGE, 3);
        for (int more = 1; more <= MOST - LARGE; more++) {
            refused(LARGE + more, 4);
        }
        for (int g : new int[] {1, 2, 3, 9, MOST - 2, MOST - 1, MOST}) {
            refused(MOST, g);
        }
    }

    private static void primeWithoutPrimeHalf() {
        CHECKS.promise(2, "a prime p of which q is a prime, too: here q is none");
        // the smallest (of 19 and 163 q is a square), and the largest below MOST
        for (int p : new int[] {13, 17, 19, 163, 2147483587, 2147483629}) {
            refused(p, 4);
        }
        // both factors of q lie near its root
        for (int p : new int[] {2138971907, 2136616403, 2126824199}) {
            refused(p, 4);
        }
    }

    private static void primeHalfOfNoPrime() {
        CHECKS.promise(2, "a prime p of which q is a prime, too: here p is none");
        for (int p : new int[] {15, 27, 35, 39, 63, 2147483447, 2147483483, 2147483567}) {
            refused(p, 4);
            refused(p, p - 1);
        }
        // even: the half, rounded down, is a prime and p is none
        for (int p : new int[] {6, 8, 12, 24, 48, 2147483580}) {
            refused(p, 4);
            refused(p, p - 1);
        }
        CHECKS.promise(2, "a prime p of which q is a prime, too: here neither is");
        // squares of primes, and products of two that lie near the root
        for (int p : new int[] {9, 25, 49, 2047, 1073676289, 2147117569, 2146654199, 2147483577}) {
            refused(p, 4);
        }
    }

    private static void generatorAtItsEdges() {
        CHECKS.promise(2, "a generator g, a MEMBER that is not 1");
        for (int p : new int[] {5, 7, 11, 23, 47, 19583, 20123, LARGE}) {
            refused(p, 1);
            refused(p, 0);
            refused(p, -1);
            refused(p, p);
            refused(p, p + 1);
            refused(p, p + 4);
            refused(p, 4 - p);
            refused(p, -4);
            refused(p, LEAST);
            refused(p, MOST);
            taken(p, 4);
            if (p != 5) {
                // only of 5, among these p, is p - 1 a square
                refused(p, p - 1);
            }
        }
        taken(23, 18);
        refused(23, 17);
        refused(23, 5);
        refused(5, 2);
        refused(5, 3);
        taken(11, 9);
        taken(LARGE, LARGE - 2);
        refused(LARGE, 2);
    }

    private static void groupFromNowOn() {
        CHECKS.promise(2, "THE GROUP has p and g from now on. False, and nothing changes");
        ProofDesk desk = new ProofDesk();
        CHECKS.due(true, "begin(23, 3)", () -> desk.begin(23, 3));
        CHECKS.group(desk, 23, 3, "the same p, another g");
        CHECKS.due(true, "begin(23, 3)", () -> desk.begin(23, 3));
        CHECKS.group(desk, 23, 3, "the same again");
        CHECKS.due(true, "begin(47, 42)", () -> desk.begin(47, 42));
        CHECKS.group(desk, 47, 42, "a g above the p before");
        CHECKS.due(false, "begin(23, 42)", () -> desk.begin(23, 42));
        CHECKS.group(desk, 47, 42, "refused: a member of the group before, not of the new one");
        CHECKS.due(false, "begin(2147483579, 1)", () -> desk.begin(LARGE, 1));
        CHECKS.group(desk, 47, 42, "refused: p right, g wrong");
        CHECKS.due(false, "begin(2147483647, 4)", () -> desk.begin(MOST, 4));
        CHECKS.group(desk, 47, 42, "refused: p wrong, g right");
        CHECKS.due(false, "begin(-1, -1)", () -> desk.begin(-1, -1));
        CHECKS.group(desk, 47, 42, "refused: both wrong");
        CHECKS.due(true, "begin(2147483579, 4)", () -> desk.begin(LARGE, 4));
        CHECKS.group(desk, LARGE, 4, "from a small group to the largest");
        CHECKS.due(true, "begin(5, 4)", () -> desk.begin(5, 4));
        CHECKS.group(desk, 5, 4, "from the largest group to the smallest");
    }

    private static void taken(int p, int g) {
        ProofDesk desk = CHECKS.desk(p, g);
        CHECKS.group(desk, p, g, "after begin(" + p + ", " + g + ")");
    }

    private static void refused(int p, int g) {
        String call = "begin(" + p + ", " + g + ")";
        ProofDesk fresh = new ProofDesk();
        CHECKS.due(false, call, () -> fresh.begin(p, g));
        CHECKS.group(fresh, 23, 2, "a new object after " + call);
        ProofDesk used = CHECKS.desk(47, 3);
        CHECKS.due(false, call, () -> used.begin(p, g));
        CHECKS.group(used, 47, 3, "another group after " + call);
    }

    private static void memberInTheSmallestGroup() {
        CHECKS.promise(3, "MEMBERS are the numbers 1 to p - 1 whose q-th power is 1");
        members(5, 4, true, 1, 4);
        members(5, 4, false, LEAST, -4, -1, 0, 2, 3, 5, 6, 9, MOST);
        members(7, 2, true, 1, 2, 4);
        members(7, 2, false, LEAST, -5, -1, 0, 3, 5, 6, 7, 8, 9, 11, MOST);
    }

    private static void memberInTheFirstGroup() {
        CHECKS.promise(3, "MEMBERS are the numbers 1 to p - 1 whose q-th power is 1");
        members(23, 2, true, 1, 2, 3, 4, 6, 8, 9, 12, 13, 16, 18);
        members(23, 2, false, 5, 7, 10, 11, 14, 15, 17, 19, 20, 21, 22);
        members(23, 2, false, LEAST, -22, -21, -5, -1, 0, 23, 24, 25, 46, 47, MOST - 1, MOST);
        // modulo 23 these are 2, 18 and 1, far beyond it
        members(23, 2, false, 2147483644, 2147483637, 1 - 23 * 93368853);
    }

    private static void memberInTheLargestGroup() {
        CHECKS.promise(3, "MEMBERS are the numbers 1 to p - 1 whose q-th power is 1");
        members(LARGE, 4, true, 1, 3, 4, 9, 2147395600, LARGE - 2);
        members(LARGE, 4, false, LEAST, -4, -2, -1, 0, 2, LARGE - 4, LARGE - 1, LARGE, LARGE + 1, LARGE + 4, MOST);
    }

    private static void members(int p, int g, boolean want, int... numbers) {
        for (int y : numbers) {
            CHECKS.in(p, g, want, "member(" + y + ")", desk -> desk.member(y));
        }
    }

    private static void countOfOthers() {
        CHECKS.promise(12, "What 0: p; 1: q; 2: g");
        CHECKS.in(LARGE, 9, LARGE, "count(0)", desk -> desk.count(0));
        CHECKS.in(LARGE, 9, Checks.LARGE_Q, "count(1)", desk -> desk.count(1));
        CHECKS.in(LARGE, 9, 9, "count(2)", desk -> desk.count(2));
        CHECKS.promise(12, "IllegalArgumentException for others");
        for (int what : new int[] {LEAST, LEAST + 1, -2, -1, 3, 4, 23, 256, 65536, 65537, MOST - 1, MOST}) {
            CHECKS.in(23, 2, Checks.ARGUMENT, "count(" + what + ")", desk -> desk.count(what));
        }
    }

    /** 64 rounds of eight calls: the last is the 512th, with refused and ordinary ones before it. */
    private static void allItsCalls() {
        CHECKS.promise(1, "An object is used for at most 512 calls after it has been made");
        ProofDesk desk = new ProofDesk();
        for (int i = 0; i < 32; i++) {
            eightCalls(desk, 47, 2, 4);
            eightCalls(desk, LARGE, 4, Checks.STATE);
        }
    }

    /** With the key g ** 4 and the beginning g ** 5, which are below p in both groups. */
    private static void eightCalls(ProofDesk desk, int p, int g, Object logOfKey) {
        int key = g * g * g * g;
        CHECKS.due(true, "begin(" + p + ", " + g + ")", () -> desk.begin(p, g));
        CHECKS.due(false, "begin(" + p + ", 1)", () -> desk.begin(p, 1));
        CHECKS.due(Checks.ARGUMENT, "inverse(0)", () -> desk.inverse(0));
        CHECKS.due(logOfKey, "log(" + key + ")", () -> desk.log(key));
        CHECKS.due(13, "answer(4, 5, 2)", () -> desk.answer(4, 5, 2));
        CHECKS.due(true, "accepts the answer", () -> desk.accepts(key, key * g, 2, 13));
        CHECKS.due(4, "secret(2, 13, 1, 9)", () -> desk.secret(2, 13, 1, 9));
        CHECKS.due(p, "count(0)", () -> desk.count(0));
    }
}
