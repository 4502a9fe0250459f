/**
 * Promises 8 (accepts), 9 (answer), 10 (feign) and 11 (secret) over whole groups and in large ones;
 * their edges are in ProofEdgesTest.
 */
public final class ProofTest {
    private static final Checks CHECKS = new Checks();

    public static void main(String[] args) {
        for (int[] group : new int[][] {{5, 4}, {7, 2}, {7, 4}, {11, 3}, {23, 2}, {23, 9}}) {
            wholeGroup(group[0], group[1]);
        }
        largeGroup(Checks.LARGE, 4);
        largeGroup(999959, 9);
        CHECKS.end();
    }

    private static void wholeGroup(int p, int g) {
        int q = (p - 1) / 2;
        int[] powers = new int[q];
        powers[0] = 1;
        for (int i = 1; i < q; i++) {
            powers[i] = powers[i - 1] * g % p;
        }
        for (int x = 0; x < q; x++) {
            for (int c = 0; c < q; c++) {
                allAnswers(p, g, powers, x, c);
                allSecrets(p, g, x, c);
            }
        }
    }

    /** Every a = g ** k and every z for one key g ** x and one challenge, by the exponents alone. */
    private static void allAnswers(int p, int g, int[] powers, int x, int c) {
        int q = powers.length;
        ProofDesk desk = CHECKS.desk(p, g);
        int y = powers[x];
        for (int i = 0; i < q; i++) {
            int k = i;
            int z = (k + c * x) % q;
            String group = "modulo " + p + " by " + g + " ";
            CHECKS.promise(9, "k + c x");
            CHECKS.due(z, group + "answer(" + x + ", " + k + ", " + c + ")", () -> desk.answer(x, k, c));
            CHECKS.promise(10, "The a with which c and z are a PROOF for y");
            CHECKS.due(powers[k], group + "feign(" + y + ", " + c + ", " + z + ")", () -> desk.feign(y, c, z));
            CHECKS.promise(8, "Whether it is a PROOF");
            for (int j = 0; j < q; j++) {
                int tried = j;
                String call = group + "accepts(" + y + ", " + powers[k] + ", " + c + ", " + tried + ")";
                CHECKS.due(tried == z, call, () -> desk.accepts(y, powers[k], c, tried));
            }
        }
    }

    /** Two answers of who knows x, with one k, give x away. */
    private static void allSecrets(int p, int g, int x, int c) {
        CHECKS.promise(11, "of two PROOFS with one a that of the key");
        int q = (p - 1) / 2;
        ProofDesk desk = CHECKS.desk(p, g);
        for (int k = 0; k < q; k++) {
            for (int i = 0; i < q; i++) {
                int d = i;
                int z = (k + c * x) % q;
                int w = (k + d * x) % q;
                Object want = c == d ? Checks.ARGUMENT : x;
                CHECKS.due(want, "modulo " + p + " secret(" + c + ", " + z + ", " + d + ", " + w + ")",
                    () -> desk.secret(c, z, d, w));
            }
        }
    }

    private static void largeGroup(int p, int g) {
        int q = (p - 1) / 2;
        int[] exponents = {0, 1, 2, q / 2, q - 2, q - 1};
        for (int x : exponents) {
            for (int k : exponents) {
                ProofDesk desk = CHECKS.desk(p, g);
                for (int c : exponents) {
                    largeProof(desk, p, g, x, k, c);
                }
            }
        }
    }

    private static void largeProof(ProofDesk desk, int p, int g, int x, int k, int c) {
        int q = (p - 1) / 2;
        int y = Checks.raised(g, x, p);
        int a = Checks.raised(g, k, p);
        int z = Checks.answerOf(q, x, k, c);
        int other = (z + 1) % q;
        String at = "modulo " + p + " x " + x + " k " + k + " c " + c + " ";
        CHECKS.promise(9, "k + c x");
        CHECKS.due(z, at + "answer", () -> desk.answer(x, k, c));
        CHECKS.promise(8, "Whether it is a PROOF");
        CHECKS.due(true, at + "accepts", () -> desk.accepts(y, a, c, z));
        CHECKS.due(false, at + "accepts another z", () -> desk.accepts(y, a, c, other));
        CHECKS.promise(10, "The a with which c and z are a PROOF for y");
        CHECKS.due(a, at + "feign", () -> desk.feign(y, c, z));
        CHECKS.promise(11, "of two PROOFS with one a that of the key");
        for (int d : new int[] {0, 1, q / 3, q - 1}) {
            if (c != d) {
                int w = Checks.answerOf(q, x, k, d);
                CHECKS.due(x, at + "secret with " + d, () -> desk.secret(c, z, d, w));
            }
        }
    }
}
