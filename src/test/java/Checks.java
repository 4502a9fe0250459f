/** What the tests share: it tells every answer that is not the one that is due, and counts them. */
final class Checks {
    static final String ARGUMENT = "throws.IllegalArgumentException";
    static final String STATE = "throws.IllegalStateException";

    private int made = 0;
    private int wrong = 0;

    /** A call whose answer, or whose exception, is looked at. */
    interface Call {
        Object run();
    }

    void due(Object want, String call, Call made) {
        String got = outcome(made);
        this.made++;
        if (!got.equals(String.valueOf(want))) {
            wrong++;
            System.out.println(call + " answered " + got + ", due is " + want);
        }
    }

    /** That an object has this group: by it a test sees that a refused call changed nothing. */
    void group(ProofDesk desk, int p, int g, String when) {
        due(p, when + ": count(0)", () -> desk.count(0));
        due((p - 1) / 2, when + ": count(1)", () -> desk.count(1));
        due(g, when + ": count(2)", () -> desk.count(2));
    }

    /** A new object with this group. */
    ProofDesk desk(int p, int g) {
        ProofDesk desk = new ProofDesk();
        due(true, "begin(" + p + ", " + g + ")", () -> desk.begin(p, g));
        return desk;
    }

    void end() {
        System.out.println(made + " answers looked at, " + wrong + " not as due");
        if (wrong != 0 || made == 0) {
            System.exit(1);
        }
    }

    private static String outcome(Call call) {
        try {
            return String.valueOf(call.run());
        } catch (RuntimeException e) {
            // The very class counts: a subclass is not what the document names.
            return "throws." + e.getClass().getSimpleName();
        }
    }
}
