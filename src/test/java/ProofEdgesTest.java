/**
 * The boundary cases that the document names for promises 8 (accepts), 9 (answer), 10 (feign) and
 * 11 (secret), sentence by sentence.
 */
public final class ProofEdgesTest {
    private static final Checks CHECKS = new Checks();
    private static final int MOST = Checks.MOST;
    private static final int LEAST = Checks.LEAST;
    private static final int LARGE = Checks.LARGE;
    private static final int LARGE_Q = Checks.LARGE_Q;
    /** Groups (p and g): the smallest, the next, the first of an object, the largest. */
    private static final int[][] GROUPS = {{5, 4}, {7, 2}, {23, 2}, {LARGE, 4}};

    public static void main(String[] args) {
        for (int[] group : GROUPS) {
            proofsOfLeastAndMost(group[0], group[1]);
            acceptsRefusesNoMembers(group[0], group[1]);
            acceptsRefusesNoExponents(group[0], group[1]);
            answerOfLeastAndMost(group[0], group[1]);
            answerRefuses(group[0], group[1]);
            feignRefuses(group[0], group[1]);
            secretOfLeastAndMost(group[0], group[1]);
            secretRefuses(group[0], group[1]);
            secretOfOneChallenge(group[0], group[1]);
        }
        numbersThatFitButForTheirRange();
        answerPassesTheLargestInt();
        secretPassesTheLargestInt();
        CHECKS.end();
    }

    /** Of the least and the largest x, k and c, each with the one z that fits and its two neighbours. */
    private static void proofsOfLeastAndMost(int p, int g) {
        int q = (p - 1) / 2;
        for (int x : new int[] {0, 1, q - 1}) {
            for (int k : new int[] {0, 1, q - 1}) {
                for (int c : new int[] {0, 1, q - 1}) {
                    proof(p, g, x, k, c);
                }
            }
        }
    }

    private static void proof(int p, int g, int x, int k, int c) {
        int q = (p - 1) / 2;
        int y = Checks.raised(g, x, p);
        int a = Checks.raised(g, k, p);
        int z = Checks.answerOf(q, x, k, c);
        CHECKS.promise(8, "Whether it is a PROOF");
        accepts(p, g, true, y, a, c, z);
        accepts(p, g, false, y, a, c, (z + 1) % q);
        accepts(p, g, false, y, a, c, (z + q - 1) % q);
        // one step more of the challenge, or of a, is one step of z that is wanting
        accepts(p, g, x == 0, y, a, (c + 1) % q, z);
        accepts(p, g, false, y, Checks.raised(g, k + 1, p), c, z);
        CHECKS.promise(10, "The a with which c and z are a PROOF for y");
        feign(p, g, a, y, c, z);
    }

    /** With c and z 0 the equation is a = 1, whatever y is. */
    private static void acceptsRefusesNoMembers(int p, int g) {
        CHECKS.promise(8, "False, too, if y, a are no MEMBERS");
        accepts(p, g, true, 1, 1, 0, 0);
        accepts(p, g, true, g, 1, 0, 0);
        int none = p == 5 ? 2 : p - 1;
        for (int wrong : new int[] {LEAST, 1 - p, -1, 0, none, p, p + 1, MOST}) {
            accepts(p, g, false, wrong, 1, 0, 0);
            accepts(p, g, false, 1, wrong, 0, 0);
            accepts(p, g, false, wrong, wrong, 0, 0);
            accepts(p, g, false, wrong, wrong, 1, 0);
        }
        // the equation holds, of numbers that are none: 2 * 2 = g modulo 5, (p - 1) * (p - 1) = 1
        accepts(p, g, false, none, none, 1, p == 5 ? 1 : 0);
        if (p != 5) {
            accepts(p, g, false, none, 1, 2, 0);
        }
    }

    private static void acceptsRefusesNoExponents(int p, int g) {
        int q = (p - 1) / 2;
        CHECKS.promise(8, "False, too, if c, z are no EXPONENTS");
        accepts(p, g, true, 1, 1, q - 1, 0);
        accepts(p, g, true, 1, Checks.raised(g, q - 1, p), 0, q - 1);
        for (int wrong : new int[] {LEAST, -q, -1, q, q + 1, p - 1, p, MOST}) {
            // with the key 1 every c would do, and with these a every z
            accepts(p, g, false, 1, 1, wrong, 0);
            accepts(p, g, false, 1, Checks.raised(g, Math.floorMod(wrong, q), p), 0, wrong);
            accepts(p, g, false, 1, 1, wrong, wrong);
        }
        // c = q is c = 0, and z = q is z = 0, in every equation
        accepts(p, g, false, g, g, q, 1);
        accepts(p, g, false, g, 1, 0, q);
    }

    /** Each is a right number of accepts(13, 8, 4, 9) moved by p or q. */
    private static void numbersThatFitButForTheirRange() {
        CHECKS.promise(8, "False, too, if y, a are no MEMBERS, or c, z no EXPONENTS");
        accepts(23, 2, true, 13, 8, 4, 9);
        accepts(23, 2, false, 13 + 23, 8, 4, 9);
        accepts(23, 2, false, 13 - 23, 8, 4, 9);
        accepts(23, 2, false, 13, 8 + 23, 4, 9);
        accepts(23, 2, false, 13, 8 - 23, 4, 9);
        accepts(23, 2, false, 13, 8, 4 + 11, 9);
        accepts(23, 2, false, 13, 8, 4 - 11, 9);
        accepts(23, 2, false, 13, 8, 4, 9 + 11);
        accepts(23, 2, false, 13, 8, 4, 9 - 11);
        CHECKS.promise(10, "IllegalArgumentException: y is no MEMBER, or c, z no EXPONENTS");
        feign(23, 2, 8, 13, 4, 9);
        feign(23, 2, Checks.ARGUMENT, 13 + 23, 4, 9);
        feign(23, 2, Checks.ARGUMENT, 13 - 23, 4, 9);
        feign(23, 2, Checks.ARGUMENT, 13, 4 + 11, 9);
        feign(23, 2, Checks.ARGUMENT, 13, 4 - 11, 9);
        feign(23, 2, Checks.ARGUMENT, 13, 4, 9 + 11);
        feign(23, 2, Checks.ARGUMENT, 13, 4, 9 - 11);
    }

    private static void accepts(int p, int g, boolean want, int y, int a, int c, int z) {
        String call = "accepts(" + y + ", " + a + ", " + c + ", " + z + ")";
        CHECKS.in(p, g, want, call, desk -> desk.accepts(y, a, c, z));
    }

    private static void answerOfLeastAndMost(int p, int g) {
        int q = (p - 1) / 2;
        CHECKS.promise(9, "k + c x, a sum and a product modulo q");
        answer(p, g, 0, 0, 0, 0);
        answer(p, g, q - 1, 0, q - 1, 0);
        answer(p, g, q - 1, q - 1, 0, 1);
        answer(p, g, q - 1, 1, 0, q - 1);
        answer(p, g, 1, q - 1, 0, q - 1);
        answer(p, g, 0, q - 1, q - 1, q - 1);
        // the sum is q - 1, then q, then the number after it
        answer(p, g, q - 1, 1, q - 2, 1);
        answer(p, g, 0, 1, q - 1, 1);
        answer(p, g, 1, 2 % q, q - 1, 1);
    }

    private static void answerRefuses(int p, int g) {
        int q = (p - 1) / 2;
        CHECKS.promise(9, "IllegalArgumentException: one is no EXPONENT");
        for (int wrong : new int[] {LEAST, -q, -1, q, q + 1, p - 1, p, MOST}) {
            for (int right : new int[] {0, 1, q - 1}) {
                answer(p, g, Checks.ARGUMENT, wrong, right, right);
                answer(p, g, Checks.ARGUMENT, right, wrong, right);
                answer(p, g, Checks.ARGUMENT, right, right, wrong);
            }
            answer(p, g, Checks.ARGUMENT, wrong, wrong, wrong);
        }
    }

    private static void answerPassesTheLargestInt() {
        CHECKS.promise(9, "k + c x, where the product or the sum passes the largest int");
        // 46341 is the first whose square passes it; 65536 ** 2 is 0 as an int
        answer(LARGE, 4, 2147395600L % LARGE_Q, 46340, 0, 46340);
        answer(LARGE, 4, 2147488281L % LARGE_Q, 46341, 0, 46341);
        answer(LARGE, 4, 4294967296L % LARGE_Q, 65536, 0, 65536);
        // the product 2 (q - 1) does not pass it, the sum with k does
        answer(LARGE, 4, 998, 2, 1000, LARGE_Q - 1);
        for (int x : new int[] {LARGE_Q - 1, LARGE_Q - 2, 1000000000, 536870912}) {
            for (int k : new int[] {LARGE_Q - 1, LARGE_Q / 2, 0}) {
                for (int c : new int[] {LARGE_Q - 1, LARGE_Q - 2, LARGE_Q / 2 + 1, 4}) {
                    answer(LARGE, 4, Checks.answerOf(LARGE_Q, x, k, c), x, k, c);
                }
            }
        }
    }

    private static void answer(int p, int g, Object want, int x, int k, int c) {
        String call = "answer(" + x + ", " + k + ", " + c + ")";
        CHECKS.in(p, g, want, call, desk -> desk.answer(x, k, c));
    }

    private static void feignRefuses(int p, int g) {
        int q = (p - 1) / 2;
        int none = p == 5 ? 2 : p - 1;
        CHECKS.promise(10, "IllegalArgumentException: y is no MEMBER");
        for (int wrong : new int[] {LEAST, 1 - p, -1, 0, none, p, p + 1, MOST}) {
            feign(p, g, Checks.ARGUMENT, wrong, 0, 0);
            feign(p, g, Checks.ARGUMENT, wrong, q - 1, q - 1);
        }
        CHECKS.promise(10, "IllegalArgumentException: c, z no EXPONENTS");
        for (int wrong : new int[] {LEAST, -q, -1, q, q + 1, p - 1, p, MOST}) {
            for (int y : new int[] {1, g}) {
                feign(p, g, Checks.ARGUMENT, y, wrong, 0);
                feign(p, g, Checks.ARGUMENT, y, 0, wrong);
                feign(p, g, Checks.ARGUMENT, y, wrong, wrong);
            }
            feign(p, g, Checks.ARGUMENT, none, wrong, wrong);
        }
    }

    private static void feign(int p, int g, Object want, int y, int c, int z) {
        String call = "feign(" + y + ", " + c + ", " + z + ")";
        CHECKS.in(p, g, want, call, desk -> desk.feign(y, c, z));
    }

    private static void secretOfLeastAndMost(int p, int g) {
        int q = (p - 1) / 2;
        CHECKS.promise(11, "The EXPONENT x with z - w = x (c - d)");
        secret(p, g, 0, 0, 0, q - 1, 0);
        secret(p, g, 0, q - 1, q - 1, 0, q - 1);
        secret(p, g, 1, q - 1, q - 1, 0, 0);
        // both differences are below 0, or one of them is, before the modulus
        secret(p, g, 1, 0, 0, q - 1, q - 1);
        secret(p, g, q - 1, 0, q - 1, q - 1, 0);
        secret(p, g, q - 1, q - 1, 0, 0, q - 1);
        secret(p, g, 1, 0, 0, 1, 1);
        secret(p, g, q - 1, 0, 1, 1, 0);
        secret(p, g, q - 1, 1, 0, 0, 1);
    }

    private static void secretRefuses(int p, int g) {
        int q = (p - 1) / 2;
        CHECKS.promise(11, "IllegalArgumentException: one is no EXPONENT");
        for (int wrong : new int[] {LEAST, -q, -1, q, q + 1, p - 1, p, MOST}) {
            for (int right : new int[] {0, q - 1}) {
                secret(p, g, Checks.ARGUMENT, wrong, right, 0, 0);
                secret(p, g, Checks.ARGUMENT, wrong, right, 1, 0);
                secret(p, g, Checks.ARGUMENT, 1, wrong, 0, right);
                secret(p, g, Checks.ARGUMENT, 0, right, wrong, 0);
                secret(p, g, Checks.ARGUMENT, 1, right, wrong, 0);
                secret(p, g, Checks.ARGUMENT, 1, right, 0, wrong);
            }
            secret(p, g, Checks.ARGUMENT, 1, wrong, 0, wrong);
            secret(p, g, Checks.ARGUMENT, wrong, 0, wrong, 0);
        }
    }

    private static void secretOfOneChallenge(int p, int g) {
        int q = (p - 1) / 2;
        CHECKS.promise(11, "IllegalArgumentException: c is d");
        for (int c : new int[] {0, 1, q - 1}) {
            secret(p, g, Checks.ARGUMENT, c, 0, c, 0);
            secret(p, g, Checks.ARGUMENT, c, 1, c, 0);
            secret(p, g, Checks.ARGUMENT, c, 0, c, q - 1);
        }
        // one answer to two challenges is right: the secret is 0
        secret(p, g, 0, 0, 1, 1, 1);
        secret(p, g, 0, 1, q - 1, 0, q - 1);
    }

    private static void secretPassesTheLargestInt() {
        CHECKS.promise(11, "The EXPONENT x with z - w = x (c - d), where a product passes the largest int");
        for (int x : new int[] {LARGE_Q - 1, LARGE_Q - 2, LARGE_Q / 2, 46341, 1}) {
            for (int k : new int[] {0, 65536, LARGE_Q - 1}) {
                for (int c : new int[] {0, 46341, LARGE_Q - 1}) {
                    for (int d : new int[] {1, LARGE_Q / 2, LARGE_Q - 2}) {
                        int z = Checks.answerOf(LARGE_Q, x, k, c);
                        int w = Checks.answerOf(LARGE_Q, x, k, d);
                        secret(LARGE, 4, x, c, z, d, w);
                    }
                }
            }
        }
    }

    private static void secret(int p, int g, Object want, int c, int z, int d, int w) {
        String call = "secret(" + c + ", " + z + ", " + d + ", " + w + ")";
        CHECKS.in(p, g, want, call, desk -> desk.secret(c, z, d, w));
    }
}
