import java.math.BigInteger;

/** Promises 8 (accepts), 9 (answer), 10 (feign) and 11 (secret). */
public final class ProofTest {
    private static final Checks CHECKS = new Checks();
    private static final int MOST = Integer.MAX_VALUE;
    private static final int LEAST = Integer.MIN_VALUE;
    private static final int LARGE = 2147483579;
    private static final int LARGE_Q = 1073741789;

    public static void main(String[] args) {
        for (int[] group : new int[][] {{5, 4}, {7, 2}, {7, 4}, {11, 3}, {23, 2}, {23, 9}}) {
            wholeGroup(group[0], group[1]);
        }
        largeGroup(LARGE, 4);
        largeGroup(999959, 9);
        acceptsRefuses();
        answerRefuses();
        feignRefuses();
        secretRefuses();
        CHECKS.end();
    }

    private static void wholeGroup(int p, int g) {
        int q = (p - 1) / 2;
        int[] powers = new int[q];
        powers[0] = 1;
        for (int i = 1; i < q; i++) {
            powers[i] = powers[i - 1] * g % p;
        }
        for (int x = 0; x < q; x++) {
            for (int c = 0; c < q; c++) {
                allAnswers(p, g, powers, x, c);
                allSecrets(p, g, x, c);
            }
        }
    }

    /** Every a = g ** k and every z for one key g ** x and one challenge, by the exponents alone. */
    private static void allAnswers(int p, int g, int[] powers, int x, int c) {
        int q = powers.length;
        ProofDesk desk = CHECKS.desk(p, g);
        int y = powers[x];
        for (int i = 0; i < q; i++) {
            int k = i;
            int z = (k + c * x) % q;
            String group = "modulo " + p + " by " + g + " ";
            CHECKS.due(z, group + "answer(" + x + ", " + k + ", " + c + ")", () -> desk.answer(x, k, c));
            CHECKS.due(powers[k], group + "feign(" + y + ", " + c + ", " + z + ")", () -> desk.feign(y, c, z));
            for (int j = 0; j < q; j++) {
                int tried = j;
                String call = group + "accepts(" + y + ", " + powers[k] + ", " + c + ", " + tried + ")";
                CHECKS.due(tried == z, call, () -> desk.accepts(y, powers[k], c, tried));
            }
        }
    }

    /** Two answers of who knows x, with one k, give x away. */
    private static void allSecrets(int p, int g, int x, int c) {
        int q = (p - 1) / 2;
        ProofDesk desk = CHECKS.desk(p, g);
        for (int k = 0; k < q; k++) {
            for (int i = 0; i < q; i++) {
                int d = i;
                int z = (k + c * x) % q;
                int w = (k + d * x) % q;
                Object want = c == d ? Checks.ARGUMENT : x;
                CHECKS.due(want, "modulo " + p + " secret(" + c + ", " + z + ", " + d + ", " + w + ")",
                    () -> desk.secret(c, z, d, w));
            }
        }
    }

    private static void largeGroup(int p, int g) {
        int q = (p - 1) / 2;
        int[] exponents = {0, 1, 2, q / 2, q - 2, q - 1};
        for (int x : exponents) {
            for (int k : exponents) {
                ProofDesk desk = CHECKS.desk(p, g);
                for (int c : exponents) {
                    largeProof(desk, p, g, x, k, c);
                }
            }
        }
    }

    private static void largeProof(ProofDesk desk, int p, int g, int x, int k, int c) {
        int q = (p - 1) / 2;
        int y = big(g).modPow(big(x), big(p)).intValue();
        int a = big(g).modPow(big(k), big(p)).intValue();
        int z = answerOf(x, k, c, q);
        int other = (z + 1) % q;
        String at = "modulo " + p + " x " + x + " k " + k + " c " + c + " ";
        CHECKS.due(z, at + "answer", () -> desk.answer(x, k, c));
        CHECKS.due(true, at + "accepts", () -> desk.accepts(y, a, c, z));
        CHECKS.due(false, at + "accepts another z", () -> desk.accepts(y, a, c, other));
        CHECKS.due(a, at + "feign", () -> desk.feign(y, c, z));
        for (int d : new int[] {0, 1, q / 3, q - 1}) {
            if (c != d) {
                int w = answerOf(x, k, d, q);
                CHECKS.due(x, at + "secret with " + d, () -> desk.secret(c, z, d, w));
            }
        }
    }

    private static int answerOf(int x, int k, int c, int q) {
        return big(c).multiply(big(x)).add(big(k)).mod(big(q)).intValue();
    }

    private static void acceptsRefuses() {
        ProofDesk desk = new ProofDesk();
        CHECKS.due(true, "accepts(13, 8, 4, 9)", () -> desk.accepts(13, 8, 4, 9));
        CHECKS.due(true, "accepts(1, 1, 0, 0)", () -> desk.accepts(1, 1, 0, 0));
        // each stands for a right number modulo p or q, or fits the equation, and is yet none
        CHECKS.due(false, "accepts(36, 8, 4, 9)", () -> desk.accepts(36, 8, 4, 9));
        CHECKS.due(false, "accepts(-10, 8, 4, 9)", () -> desk.accepts(-10, 8, 4, 9));
        CHECKS.due(false, "accepts(13, 31, 4, 9)", () -> desk.accepts(13, 31, 4, 9));
        CHECKS.due(false, "accepts(13, -15, 4, 9)", () -> desk.accepts(13, -15, 4, 9));
        CHECKS.due(false, "accepts(13, 8, 15, 9)", () -> desk.accepts(13, 8, 15, 9));
        CHECKS.due(false, "accepts(13, 8, -7, 9)", () -> desk.accepts(13, 8, -7, 9));
        CHECKS.due(false, "accepts(13, 8, 4, 20)", () -> desk.accepts(13, 8, 4, 20));
        CHECKS.due(false, "accepts(13, 8, 4, -2)", () -> desk.accepts(13, 8, 4, -2));
        CHECKS.due(false, "accepts(1, 1, 11, 0)", () -> desk.accepts(1, 1, 11, 0));
        CHECKS.due(false, "accepts(1, 1, 0, 11)", () -> desk.accepts(1, 1, 0, 11));
        CHECKS.due(false, "accepts(1, 1, -1, 0)", () -> desk.accepts(1, 1, -1, 0));
        CHECKS.due(false, "accepts(1, 1, 0, -1)", () -> desk.accepts(1, 1, 0, -1));
        CHECKS.due(false, "accepts(22, 1, 0, 0), y no member", () -> desk.accepts(22, 1, 0, 0));
        CHECKS.due(false, "accepts(22, 1, 2, 0), y no member", () -> desk.accepts(22, 1, 2, 0));
        CHECKS.due(false, "accepts(22, 22, 1, 0), neither a member", () -> desk.accepts(22, 22, 1, 0));
        CHECKS.due(false, "accepts(0, 1, 0, 0)", () -> desk.accepts(0, 1, 0, 0));
        CHECKS.due(false, "accepts(1, 0, 0, 0)", () -> desk.accepts(1, 0, 0, 0));
        for (int far : new int[] {LEAST, MOST}) {
            CHECKS.due(false, "accepts far y " + far, () -> desk.accepts(far, 1, 0, 0));
            CHECKS.due(false, "accepts far a " + far, () -> desk.accepts(1, far, 0, 0));
            CHECKS.due(false, "accepts far c " + far, () -> desk.accepts(1, 1, far, 0));
            CHECKS.due(false, "accepts far z " + far, () -> desk.accepts(1, 1, 0, far));
        }
        CHECKS.group(desk, 23, 2, "after accepts");
    }

    private static void answerRefuses() {
        ProofDesk desk = new ProofDesk();
        for (int wrong : new int[] {LEAST, -1, 11, 12, 22, MOST}) {
            CHECKS.due(Checks.ARGUMENT, "answer x " + wrong, () -> desk.answer(wrong, 3, 4));
            CHECKS.due(Checks.ARGUMENT, "answer k " + wrong, () -> desk.answer(7, wrong, 4));
            CHECKS.due(Checks.ARGUMENT, "answer c " + wrong, () -> desk.answer(7, 3, wrong));
            CHECKS.due(Checks.ARGUMENT, "answer x beside 0 " + wrong, () -> desk.answer(wrong, 0, 0));
            CHECKS.due(Checks.ARGUMENT, "answer c beside 0 " + wrong, () -> desk.answer(0, 0, wrong));
        }
        CHECKS.due(0, "answer(10, 1, 1), whose sum is q", () -> desk.answer(10, 1, 1));
        CHECKS.group(desk, 23, 2, "after answer threw");
        ProofDesk large = CHECKS.desk(LARGE, 4);
        CHECKS.due(Checks.ARGUMENT, "large answer x is q", () -> large.answer(LARGE_Q, 0, 0));
        CHECKS.due(Checks.ARGUMENT, "large answer k is q", () -> large.answer(0, LARGE_Q, 0));
        CHECKS.due(Checks.ARGUMENT, "large answer c is q", () -> large.answer(0, 0, LARGE_Q));
    }

    private static void feignRefuses() {
        ProofDesk desk = new ProofDesk();
        for (int wrong : new int[] {LEAST, -10, -1, 0, 5, 22, 23, 24, 36, MOST}) {
            CHECKS.due(Checks.ARGUMENT, "feign y " + wrong, () -> desk.feign(wrong, 4, 9));
            CHECKS.due(Checks.ARGUMENT, "feign y with c 0 " + wrong, () -> desk.feign(wrong, 0, 0));
        }
        for (int wrong : new int[] {LEAST, -1, 11, 12, 15, MOST}) {
            CHECKS.due(Checks.ARGUMENT, "feign c " + wrong, () -> desk.feign(13, wrong, 9));
            CHECKS.due(Checks.ARGUMENT, "feign z " + wrong, () -> desk.feign(13, 4, wrong));
        }
        CHECKS.due(1, "feign(13, 0, 0)", () -> desk.feign(13, 0, 0));
        CHECKS.group(desk, 23, 2, "after feign threw");
    }

    private static void secretRefuses() {
        ProofDesk desk = new ProofDesk();
        for (int wrong : new int[] {LEAST, -1, 11, 12, 20, MOST}) {
            CHECKS.due(Checks.ARGUMENT, "secret c " + wrong, () -> desk.secret(wrong, 9, 9, 0));
            CHECKS.due(Checks.ARGUMENT, "secret z " + wrong, () -> desk.secret(4, wrong, 9, 0));
            CHECKS.due(Checks.ARGUMENT, "secret d " + wrong, () -> desk.secret(4, 9, wrong, 0));
            CHECKS.due(Checks.ARGUMENT, "secret w " + wrong, () -> desk.secret(4, 9, 9, wrong));
        }
        CHECKS.due(Checks.ARGUMENT, "secret of one challenge", () -> desk.secret(4, 9, 4, 9));
        CHECKS.due(Checks.ARGUMENT, "secret of one challenge, two answers", () -> desk.secret(4, 9, 4, 3));
        CHECKS.due(0, "secret of one answer", () -> desk.secret(4, 9, 5, 9));
        CHECKS.group(desk, 23, 2, "after secret threw");
    }

    private static BigInteger big(int n) {
        return BigInteger.valueOf(n);
    }
}
