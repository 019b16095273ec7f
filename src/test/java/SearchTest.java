/** Promises 18 to 21: odds, hidden, order, mean. */
public final class SearchTest {
    private static final String THREE = "crate 0;crate 10;crate 20;sleeve 12 1 0;lies 0 0;back 1 1 1 1;";

    public static void main(String[] args) {
        odds();
        hidden();
        orderAndMean();
        eachItsOwn();
        sold();
        refusals();
        Checks.end();
    }

    private static void odds(FlickedCrates x, int crate, int sleeve, int k, long above, long below) {
        String call = "odds(" + crate + ", " + sleeve + ", " + k + ", ";
        Checks.due(call + "0)", x.odds(crate, sleeve, k, 0), above);
        Checks.due(call + "1)", x.odds(crate, sleeve, k, 1), below);
    }

    private static void odds() {
        FlickedCrates x = Checks.of(THREE);
        odds(x, 0, 0, 0, 1, 1);
        odds(x, 1, 0, 0, 0, 1);
        odds(x, 0, 0, 1, 11, 24);
        odds(x, 1, 0, 1, 11, 24);
        odds(x, 2, 0, 1, 1, 12);
        odds(x, 0, 0, 2, 5, 16);
        odds(x, 1, 0, 2, 33, 64);
        odds(x, 2, 0, 2, 11, 64);
        // One crate alone: it stays, whatever is drawn.
        FlickedCrates one = Checks.of("crate 0;sleeve 3 1 1;back 0 9 0 9;");
        odds(one, 0, 0, 4, 1, 1);
        // Beside alone, from the first of two: half stays, half goes.
        FlickedCrates two = Checks.of("crate 0;crate 9;sleeve 3 1 1;back 0 3 0 0;");
        odds(two, 0, 0, 1, 1, 2);
        odds(two, 1, 0, 1, 1, 2);
        odds(two, 1, 0, 4, 1, 2);
        // To its own one alone: once is enough.
        FlickedCrates own = Checks.of("crate 0;crate 9;sleeve 12 1 1;lies 0 0;");
        odds(own, 0, 0, 1, 0, 1);
        odds(own, 1, 0, 1, 1, 1);
        // Eight crates, weights of 36, four times: the odds make one together.
        FlickedCrates most = Checks.of("crate 0;crate 1;crate 2;crate 3;crate 4;crate 5;crate 6;crate 7;"
                + "sleeve 2 1 1;lies 0 7;back 9 8 9 9;");
        long whole = 560L * 560 * 560 * 560;
        long together = 0;
        for (int crate = 0; crate < 8; crate++) {
            long below = most.odds(crate, 0, 4, 1);
            Checks.due("below divides the whole", whole % below, 0);
            together += most.odds(crate, 0, 4, 0) * (whole / below);
        }
        Checks.due("odds together", together, whole);
        // After it has been laid elsewhere, from there.
        FlickedCrates laid = Checks.of("crate 0;crate 9;sleeve 12 1 1;back 0 0 1 0;");
        odds(laid, 1, 0, 3, 1, 1);
        laid.lay(0, 0);
        odds(laid, 1, 0, 3, 0, 1);
    }

    private static void hidden() {
        String text = "crate 0;crate 1;crate 2;crate 3;crate 4;sleeve 0 1 0;sleeve 0 1 0;sleeve 0 1 0;sleeve 0 1 0;sleeve 2 1 0;"
                + "lies 1 1;lies 2 2;lies 3 4;lies 4 0;";
        int[] beside = {30, 28, 8, 8, 0, 0, 0, 0, 0};
        FlickedCrates x = Checks.of(text + "back 0 1 0 0;");
        FlickedCrates own = Checks.of(text + "back 1 0 0 0;");
        FlickedCrates here = Checks.of(text + "back 0 0 5 0;");
        FlickedCrates any = Checks.of(text + "back 1 0 0 1;");
        for (int k = 0; k <= 8; k++) {
            Checks.due("beside: hidden(" + k + ")", x.hidden(k), beside[k]);
            Checks.due("own: hidden(" + k + ")", own.hidden(k), 30);
            Checks.due("here: hidden(" + k + ")", here.hidden(k), 30);
            Checks.due("any: hidden(" + k + ")", any.hidden(k), k == 0 ? 30 : 0);
        }
        FlickedCrates bought = Checks.of("crate 0;crate 5;sleeve 7 1 9;sleeve 7 1 0;lies 0 0;lies 1 0;looker 0 1 5 9 9;miss 1 0;");
        Checks.due("hidden ahead", bought.hidden(0), 3);
        bought.day(1);
        Checks.due("a sold one is not hidden", bought.hidden(0), 2);
        Checks.due("a new object", new FlickedCrates().hidden(8), 0);
    }

    private static void order(FlickedCrates x, int sleeve, int k, int f, int... due) {
        String call = "order(" + sleeve + ", " + k + ", " + f + ", ";
        for (int i = 0; i < due.length; i++) {
            Checks.due(call + i + ")", x.order(sleeve, k, f, i), due[i]);
        }
        Checks.due(call + "behind)", x.order(sleeve, k, f, due.length), -1);
        Checks.due(call + "-1)", x.order(sleeve, k, f, -1), -1);
    }

    private static void mean(FlickedCrates x, int sleeve, int k, int f, long above, long below) {
        String call = "mean(" + sleeve + ", " + k + ", " + f + ", ";
        Checks.due(call + "0)", x.mean(sleeve, k, f, 0), above);
        Checks.due(call + "1)", x.mean(sleeve, k, f, 1), below);
    }

    private static void orderAndMean() {
        FlickedCrates x = Checks.of(THREE);
        // Seconds 2, 1, 1; odds 11, 11, 2 of 24.
        order(x, 0, 1, 1, 1, 0, 2);
        mean(x, 0, 1, 1, 13, 6);
        order(x, 0, 1, 2, 0, 1, 2);
        mean(x, 0, 1, 2, 13, 8);
        order(x, 0, 0, 8, 0, 1, 2);
        mean(x, 0, 0, 8, 1, 1);
        // Rounded up: 4 and 1 by 3 are 2 seconds.
        FlickedCrates full = Checks.of("crate 0;crate 9;sleeve 0 1 0;sleeve 0 1 0;sleeve 0 1 0;sleeve 0 1 0;back 0 1 0 0;");
        order(full, 0, 1, 3, 1, 0);
        mean(full, 0, 1, 3, 2, 1);
        // In the order where nothing is sure, that of fractions counts: 1 of 2 for 5 seconds, 1 of 2 for 1.
        order(full, 0, 1, 1, 1, 0);
        mean(full, 0, 1, 1, 1 + 6, 2);
    }

    /** Each call ranks for itself, whatever was asked ahead of it. */
    private static void eachItsOwn() {
        FlickedCrates x = Checks.of(THREE);
        Checks.due("mean by 2", x.mean(0, 1, 2, 1), 8);
        Checks.due("mean by 1", x.mean(0, 1, 1, 1), 6);
        Checks.due("order by 2", x.order(0, 1, 2, 0), 0);
        Checks.due("order by 1", x.order(0, 1, 1, 0), 1);
        Checks.due("odds, twice", x.odds(0, 0, 2, 0), 5);
        Checks.due("odds, once", x.odds(0, 0, 1, 0), 11);
    }

    private static void sold() {
        FlickedCrates x = Checks.of("crate 0;sleeve 7 1 9;looker 0 1 5 9 9;miss 1 0;");
        x.day(1);
        Checks.sold("odds", x, () -> x.odds(0, 0, 0, 0));
        Checks.sold("order", x, () -> x.order(0, 0, 1, 5));
        Checks.sold("mean", x, () -> x.mean(0, 0, 1, 0));
        Checks.notFit("odds of 5 times", x, () -> x.odds(0, 0, 5, 0));
        Checks.notFit("order at 0", x, () -> x.order(0, 0, 0, 0));
        Checks.notFit("mean of another what", x, () -> x.mean(0, 0, 1, 2));
        Checks.noCrate("odds of no crate", x, () -> x.odds(1, 0, 0, 0));
    }

    private static void refusals() {
        FlickedCrates x = Checks.of(THREE);
        Checks.noCrate("odds(3, 9, 9, 9)", x, () -> x.odds(3, 9, 9, 9));
        Checks.noCrate("odds(-1, 0, 0, 0)", x, () -> x.odds(-1, 0, 0, 0));
        Checks.noSuch("odds(0, 1, 9, 9)", x, () -> x.odds(0, 1, 9, 9));
        Checks.notFit("odds(0, 0, 5, 0)", x, () -> x.odds(0, 0, 5, 0));
        Checks.notFit("odds(0, 0, -1, 0)", x, () -> x.odds(0, 0, -1, 0));
        Checks.notFit("odds(0, 0, 0, 2)", x, () -> x.odds(0, 0, 0, 2));
        Checks.notFit("odds(0, 0, 0, -1)", x, () -> x.odds(0, 0, 0, -1));
        Checks.notFit("hidden(9)", x, () -> x.hidden(9));
        Checks.notFit("hidden(-1)", x, () -> x.hidden(-1));
        Checks.noSuch("order(1, 9, 9, 0)", x, () -> x.order(1, 9, 9, 0));
        Checks.noSuch("order(-1, 0, 1, 0)", x, () -> x.order(-1, 0, 1, 0));
        Checks.notFit("order(0, 5, 1, 0)", x, () -> x.order(0, 5, 1, 0));
        Checks.notFit("order(0, -1, 1, 9)", x, () -> x.order(0, -1, 1, 9));
        Checks.notFit("order(0, 0, 0, 0)", x, () -> x.order(0, 0, 0, 0));
        Checks.notFit("order(0, 0, 9, 0)", x, () -> x.order(0, 0, 9, 0));
        Checks.noSuch("mean(1, 9, 9, 9)", x, () -> x.mean(1, 9, 9, 9));
        Checks.notFit("mean(0, 5, 1, 0)", x, () -> x.mean(0, 5, 1, 0));
        Checks.notFit("mean(0, -1, 1, 0)", x, () -> x.mean(0, -1, 1, 0));
        Checks.notFit("mean(0, 0, 0, 0)", x, () -> x.mean(0, 0, 0, 0));
        Checks.notFit("mean(0, 0, 9, 0)", x, () -> x.mean(0, 0, 9, 0));
        Checks.notFit("mean(0, 0, 1, 2)", x, () -> x.mean(0, 0, 1, 2));
        Checks.notFit("mean(0, 0, 1, -1)", x, () -> x.mean(0, 0, 1, -1));
    }
}
