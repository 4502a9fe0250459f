import java.math.BigInteger;

/** What the tests share: it tells every answer that is not the one that is due, and counts them. */
final class Checks {
    static final String ARGUMENT = "throws.IllegalArgumentException";
    static final String STATE = "throws.IllegalStateException";
    static final int MOST = Integer.MAX_VALUE;
    static final int LEAST = Integer.MIN_VALUE;
    /** The largest p that an int can hold with which there is a group, and its q. */
    static final int LARGE = 2147483579;
    static final int LARGE_Q = 1073741789;

    private int made = 0;
    private int wrong = 0;
    private String promise = "";

    /** A call whose answer, or whose exception, is looked at. */
    interface Call {
        Object run();
    }

    /** The same, on an object that it is given. */
    interface DeskCall {
        Object run(ProofDesk desk);
    }

    /** From here on the answers looked at are of this promise, and of this that the document says. */
    void promise(int number, String says) {
        promise = "promise " + number + " (" + says + "): ";
    }

    void due(Object want, String call, Call made) {
        String got = outcome(made);
        this.made++;
        if (!got.equals(String.valueOf(want))) {
            wrong++;
            System.out.println(promise + call + " answered " + got + ", due is " + want);
        }
    }

    /**
     * The answer of one call on a new object with this group, and that the group stays as it was:
     * no call but begin changes it, whether it is refused or not.
     */
    void in(int p, int g, Object want, String call, DeskCall made) {
        ProofDesk desk = desk(p, g);
        String where = "in the group " + p + ", " + g + " " + call;
        due(want, where, () -> made.run(desk));
        group(desk, p, g, "after, " + where);
    }

    /** That an object has this group, by what count tells and by calls that use all of it. */
    void group(ProofDesk desk, int p, int g, String when) {
        int q = (p - 1) / 2;
        due(p, when + ": count(0)", () -> desk.count(0));
        due(q, when + ": count(1)", () -> desk.count(1));
        due(g, when + ": count(2)", () -> desk.count(2));
        due(1, when + ": (p - 1) * (p - 1)", () -> desk.product(p - 1, p - 1));
        due(0, when + ": answer(q - 1, q - 1, q - 1)", () -> desk.answer(q - 1, q - 1, q - 1));
        due(true, when + ": accepts(g, g, q - 1, 0)", () -> desk.accepts(g, g, q - 1, 0));
    }

    /** A new object with this group. */
    ProofDesk desk(int p, int g) {
        ProofDesk desk = new ProofDesk();
        due(true, "begin(" + p + ", " + g + ")", () -> desk.begin(p, g));
        return desk;
    }

    void end() {
        System.out.println(made + " answers looked at, " + wrong + " not as due");
        if (wrong != 0 || made == 0) {
            System.exit(1);
        }
    }

    static BigInteger big(long n) {
        return BigInteger.valueOf(n);
    }

    /** a ** e modulo p, by the Java library. */
    static int raised(int a, long e, int p) {
        return big(a).modPow(big(e), big(p)).intValue();
    }

    /** k + c x modulo q, by the Java library. */
    static int answerOf(int q, int x, int k, int c) {
        return big(c).multiply(big(x)).add(big(k)).mod(big(q)).intValue();
    }

    private static String outcome(Call call) {
        try {
            return String.valueOf(call.run());
        } catch (RuntimeException e) {
            // The very class counts: a subclass is not what the document names.
            return "throws." + e.getClass().getSimpleName();
        }
    }
}
