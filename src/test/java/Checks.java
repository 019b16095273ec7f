/** What all tests share: answers that are due, refusals that are due, and shops fed as texts. */
final class Checks {
    interface Call {
        long answer();
    }

    private static int wrong = 0;
    private static int made = 0;

    private Checks() {
    }

    static void due(String what, long got, long want) {
        made++;
        if (got != want) {
            wrong++;
            System.out.println(what + " answered " + got + ", due is " + want);
        }
    }

    /** The call must throw just this exception, and count it in status(). */
    static void refused(String what, FlickedCrates x, Class<? extends RuntimeException> due, Call call) {
        made++;
        int[] before = statuses(x);
        String got = "nothing";
        try {
            call.answer();
        } catch (RuntimeException e) {
            got = e.getClass().getName();
        }
        if (!got.equals(due.getName())) {
            wrong++;
            System.out.println(what + " threw " + got + ", due is " + due.getName());
        }
        int[] after = statuses(x);
        for (int i = 0; i < 4; i++) {
            int more = REASONS[i] == due ? 1 : 0;
            due(what + ": refusals of kind " + i, after[i] - before[i], more);
        }
    }

    static final Class<?>[] REASONS = {IndexOutOfBoundsException.class, java.util.NoSuchElementException.class,
        IllegalArgumentException.class, IllegalStateException.class};

    private static int[] statuses(FlickedCrates x) {
        return new int[] {x.status(0), x.status(1), x.status(2), x.status(3)};
    }

    static void noCrate(String what, FlickedCrates x, Call call) {
        refused(what, x, IndexOutOfBoundsException.class, call);
    }

    static void noSuch(String what, FlickedCrates x, Call call) {
        refused(what, x, java.util.NoSuchElementException.class, call);
    }

    static void notFit(String what, FlickedCrates x, Call call) {
        refused(what, x, IllegalArgumentException.class, call);
    }

    static void sold(String what, FlickedCrates x, Call call) {
        refused(what, x, IllegalStateException.class, call);
    }

    /** Feeds a text, filled up with zeros to whole calls; the tape must have been empty. */
    static void feed(FlickedCrates x, String text) {
        for (int at = 0; at < text.length(); at += 20) {
            x.feed(four(text, at), four(text, at + 4), four(text, at + 8), four(text, at + 12), four(text, at + 16));
        }
    }

    private static int four(String text, int at) {
        int number = 0;
        for (int i = at; i < at + 4; i++) {
            number = number << 8 | (i < text.length() ? text.charAt(i) & 255 : 0);
        }
        return number;
    }

    static int shop(FlickedCrates x, String text) {
        feed(x, text);
        return x.shop(text.length());
    }

    /** A new object with a shop that has no fault. */
    static FlickedCrates of(String text) {
        FlickedCrates x = new FlickedCrates();
        int answer = shop(x, text);
        if (answer < 0) {
            due("shop of " + text + " (fault at " + x.fault() + ")", answer, 0);
        }
        return x;
    }

    static void row(String what, FlickedCrates x, int crate, int... sleeves) {
        due(what + ": size of crate " + crate, x.crate(crate, 1), sleeves.length);
        for (int i = 0; i < sleeves.length; i++) {
            due(what + ": row(" + crate + ", " + i + ")", x.row(crate, i), sleeves[i]);
        }
        due(what + ": behind the row of " + crate, x.row(crate, sleeves.length), -1);
    }

    static void end() {
        System.out.println(made + " checks, " + wrong + " wrong");
        if (wrong != 0) {
            System.exit(1);
        }
    }
}
