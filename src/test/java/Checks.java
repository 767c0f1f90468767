/** What the project's tests share: it counts the checks and prints those that fail. */
final class Checks {
    interface Call {
        long answer();
    }

    private static int made = 0;
    private static int wrong = 0;
    // The sentence that the checks hold from here on; none, if it is empty.
    private static String held = "";

    private Checks() {
    }

    static void hold(String sentence) {
        held = sentence;
    }

    static void due(String call, long want, long got) {
        made++;
        if (got != want) {
            fail(call + " answered " + got + ", due is " + want);
        }
    }

    static void dueShare(String call, double want, double got) {
        made++;
        if (Double.doubleToLongBits(got) != Double.doubleToLongBits(want)) {
            fail(call + " answered " + got + ", due is " + want);
        }
    }

    static void holds(String what, boolean does) {
        made++;
        if (!does) {
            fail(what);
        }
    }

    /** The call throws exactly this exception, and changes nothing. */
    static void refused(TideFares x, String call, Class<? extends RuntimeException> due, Call made) {
        long before = x.digest();
        Class<?> thrown = null;
        try {
            made.answer();
        } catch (RuntimeException e) {
            thrown = e.getClass();
        }
        holds(call + " threw " + thrown + ", due is " + due, thrown == due);
        due(call + ": the digest behind what it threw", before, x.digest());
    }

    static void noIndex(TideFares x, String call, Call made) {
        refused(x, call, IndexOutOfBoundsException.class, made);
    }

    static void noArgument(TideFares x, String call, Call made) {
        refused(x, call, IllegalArgumentException.class, made);
    }

    static void noState(TideFares x, String call, Call made) {
        refused(x, call, IllegalStateException.class, made);
    }

    static void type(TideFares x, String text) {
        for (int i = 0; i < text.length(); i++) {
            x.append(text.charAt(i));
        }
    }

    /** An object with the ferries that these texts tell. */
    static TideFares with(String... texts) {
        TideFares x = new TideFares();
        for (String text : texts) {
            type(x, text);
            x.ferries();
        }
        return x;
    }

    private static void fail(String what) {
        wrong++;
        if (wrong <= 40) {
            System.out.println("  " + what + (held.isEmpty() ? "" : " [" + held + "]"));
        }
    }

    static void end(String test) {
        System.out.println(test + ": " + made + " checks, " + wrong + " wrong");
        if (wrong != 0 || made == 0) {
            System.exit(1);
        }
    }
}
