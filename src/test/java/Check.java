/** Counts answers that are not as due; every test ends with {@link #end}. */
final class Check {
    private static int made = 0;
    private static int wrong = 0;

    private Check() {
    }

    static void same(String what, long got, long due) {
        made++;
        if (got != due) {
            wrong++;
            System.out.println(what + " answered " + got + ", due is " + due);
        }
    }

    static void same(String what, String got, String due) {
        made++;
        if (!got.equals(due)) {
            wrong++;
            System.out.println(what + " answered " + got + ", due is " + due);
        }
    }

    static void yes(String what, boolean got) {
        same(what, got ? 1 : 0, 1);
    }

    static void no(String what, boolean got) {
        same(what, got ? 1 : 0, 0);
    }

    /** The class must be the very one, and the program's own throw: what the machine throws doesn't count. */
    static void fails(String what, Class<?> due, Runnable call) {
        made++;
        String got = "nothing";
        try {
            call.run();
        } catch (RuntimeException e) {
            got = name(e);
        }
        if (!got.equals(due.getName())) {
            wrong++;
            System.out.println(what + " threw " + got + ", due is " + due.getName());
        }
    }

    static String name(Throwable e) {
        return (isTheMachines(e) ? "by the machine: " : "") + e.getClass().getName();
    }

    private static boolean isTheMachines(Throwable e) {
        String text = e.getMessage();
        return text == null || text.contains("out of bounds") || text.contains("by zero");
    }

    static void row(String what, LiftFactors x, int p, int... due) {
        for (int k = 0; k <= 10; k++) {
            same(what + ", power " + k, x.at(p, k), k < due.length ? due[k] : 0);
        }
    }

    /** A new polynomial with these coefficients, from the power 0 on. */
    static int make(LiftFactors x, int... coefficients) {
        int p = x.poly();
        for (int k = 0; k < coefficients.length; k++) {
            x.set(p, k, coefficients[k]);
        }
        return p;
    }

    /** An object that has no more than this many numbers left. */
    static LiftFactors withNumbersLeft(int left) {
        LiftFactors x = new LiftFactors();
        for (int k = 0; k < 80 - left; k++) {
            x.poly();
        }
        return x;
    }

    static void end() {
        System.out.println(made + " answers looked at, " + wrong + " not as due");
        if (wrong != 0 || made == 0) {
            System.exit(1);
        }
    }
}
