/** Promises 14 to 17: day, would, buys, then. */
public final class DayTest {
    public static void main(String[] args) {
        buying();
        waiting();
        changingPlaces();
        puttingBack();
        drawing();
        eachItsOwn();
        missing();
        neverGone();
        emptyCrates();
        refusals();
        Checks.end();
    }

    private static void would(FlickedCrates x, int seed, int... due) {
        for (int what = 0; what < 6; what++) {
            Checks.due("would(" + seed + ", " + what + ")", x.would(seed, what), due[what]);
        }
    }

    private static void buys(FlickedCrates x, int looker, int seed, int... due) {
        for (int what = 0; what < 4; what++) {
            Checks.due("buys(" + looker + ", " + seed + ", " + what + ")", x.buys(looker, seed, what), due[what]);
        }
    }

    /** Wants 5 or more for 20 or less and has 30: the third of 20 is too dear for what is left. */
    private static void buying() {
        FlickedCrates x = Checks.of("crate 0;sleeve 0 20 5;sleeve 0 21 9;sleeve 0 10 4;sleeve 0 20 9;sleeve 0 10 7;"
                + "looker 3 2 5 20 30;miss 2 0;");
        // Five by two are 3 seconds, and four held up.
        would(x, 1, 2, 30, 0, 4, 0, 3 + 3 + 20);
        buys(x, 0, 1, 2, 30, 0, 26);
        Checks.due("then(0)", x.then(0, 1), -1);
        Checks.due("then(1)", x.then(1, 1), 0);
        Checks.due("then(4)", x.then(4, 1), -1);
        Checks.row("would() leaves all", x, 0, 0, 1, 2, 3, 4);
        Checks.due("day", x.day(1), 2);
        Checks.row("what is put back lies behind all", x, 0, 2, 1, 3);
        Checks.due("sold", x.count(2), 2);
        Checks.due("then of a sold one", x.then(0, 1), -1);
        // He has 30 again, but one is above 20.
        Checks.due("next day", x.day(2), 1);
        Checks.row("next day", x, 0, 2, 1);
    }

    /** The second one comes when the first one is gone in the same second. */
    private static void waiting() {
        String sleeves = "crate 0;sleeve 0 1 0;sleeve 0 1 0;sleeve 0 1 0;miss 1 8;";
        FlickedCrates x = Checks.of(sleeves + "looker 0 1 0 0 0;looker 1 1 0 0 0;");
        buys(x, 0, 5, 0, 0, 0, 3);
        buys(x, 1, 5, 0, 0, 2, 6);
        would(x, 5, 0, 0, 2, 0, 0, 6);
        // One with a lower number only sees it a second later.
        FlickedCrates y = Checks.of(sleeves + "looker 1 1 0 0 0;looker 0 1 0 0 0;");
        buys(y, 1, 5, 0, 0, 0, 3);
        buys(y, 0, 5, 0, 0, 3, 7);
        // From 600 on.
        FlickedCrates z = Checks.of(sleeves + "looker 600 8 0 0 0;miss 8 8;");
        buys(z, 0, 5, 0, 0, 0, 601);
    }

    private static void changingPlaces() {
        FlickedCrates x = Checks.of("crate 0;crate 5;sleeve 0 1 0;sleeve 0 1 0;sleeve 7 1 0;sleeve 7 1 0;sleeve 7 1 0;"
                + "sleeve 7 1 0;looker 0 1 0 0 0;looker 0 1 0 0 0;looker 1 2 0 0 0;left 1;miss 1 8;miss 2 8;");
        buys(x, 0, 3, 0, 0, 2, 8);
        buys(x, 1, 3, 0, 0, 0, 6);
        buys(x, 2, 3, 0, 0, 6, 10);
        would(x, 3, 0, 0, 8, 0, 0, 10);
        // Into an empty crate: who has changed by another's turn goes on in his own turn of that second.
        FlickedCrates y = Checks.of("crate 0;crate 5;looker 0 1 0 0 0;looker 0 1 0 0 0;left 1;");
        buys(y, 0, 3, 0, 0, 0, 2);
        buys(y, 1, 3, 0, 0, 0, 1);
        // One who comes does not change places with one whose last crate is his first.
        FlickedCrates z = Checks.of("crate 0;sleeve 0 1 0;looker 2 1 0 0 0;looker 0 2 0 0 0;left 1;miss 1 8;miss 2 8;"
                + "looker 1 1 0 0 0;");
        buys(z, 0, 3, 0, 0, 1, 4);
        buys(z, 1, 3, 0, 0, 0, 1);
        buys(z, 2, 3, 0, 0, 0, 2);
    }

    /** With one weight alone it is known where all go. */
    private static void puttingBack() {
        String text = "crate 0;crate 5;crate 10;sleeve 12 9 0;sleeve 12 9 0;sleeve 0 9 9;lies 0 0;lies 1 1;"
                + "looker 0 1 0 0 0;miss 1 0;stop 1;";
        FlickedCrates own = Checks.of(text + "back 3 0 0 0;");
        would(own, 7, 0, 0, 0, 5, 0, 2 + 2 + 1 + 1 + 2 + 2);
        own.day(7);
        Checks.row("own", own, 0, 2);
        Checks.row("own", own, 2, 0, 1);
        FlickedCrates here = Checks.of(text + "back 0 0 3 0;");
        here.day(7);
        Checks.row("here", here, 0, 0, 2);
        Checks.row("here", here, 1, 1);
        Checks.due("here: off", here.off(), 3);
        // One crate alone has none beside it.
        FlickedCrates beside = Checks.of("crate 0;sleeve 0 9 0;sleeve 0 9 0;looker 0 1 0 0 0;miss 1 0;back 0 1 0 0;");
        beside.day(9);
        Checks.row("beside", beside, 0, 0, 1);
    }

    /**
     * What seeds draw (bits 16 to 30): 0: 0, 21468, 9988, 22117, 3498, 16927; 1: 16838, 5758, 10113, 17515, 31051, 5627;
     * 2: 908, 22817, 10239; 5: 18655, 8457, 10616, 31877, 10193, 25964. One who goes to the left sees crate 1, then 0.
     */
    private static void drawing() {
        String text = "crate 0;crate 5;crate 10;sleeve 5 9 0;looker 0 1 0 0 0;left 0;";
        // Any of 3: to 0, and from there to 2; less is seen with more missed (draws of 8: 6, then 3).
        drawn(text + "back 0 0 0 1;miss 1 0;", 1, 2, 2);
        drawn(text + "back 0 0 0 1;miss 1 3;", 1, 2, 2);
        drawn(text + "back 0 0 0 1;miss 1 4;", 1, 1, 0);
        drawn(text + "back 0 0 0 1;miss 1 6;", 1, 1, 0);
        drawn(text + "back 0 0 0 1;miss 1 7;", 1, 0, 1);
        // Beside: ahead and behind again; behind; ahead, and none is ahead of that.
        drawn(text + "back 0 1 0 0;miss 1 0;", 0, 2, 1);
        drawn(text + "back 0 1 0 0;miss 1 0;", 1, 1, 2);
        drawn(text + "back 0 1 0 0;miss 1 0;", 5, 2, 0);
        // 22817 of 10 is 7: at the weights' edges.
        String four = "crate 0;crate 5;crate 10;crate 15;sleeve 15 9 0;lies 0 1;looker 0 1 0 0 0;left 0;miss 1 0;";
        drawn(four + "back 8 0 1 1;", 2, 1, 3);
        drawn(four + "back 7 1 1 1;", 2, 1, 2);
        drawn(four + "back 6 1 1 2;", 2, 1, 1);
        drawn(four + "back 6 2 1 1;", 2, 1, 2);
        drawn(four + "back 1 1 5 3;", 1, 1, 1);
        // All of the row is drawn for ahead of what is put back.
        String two = "crate 0;crate 5;crate 10;sleeve 0 9 0;sleeve 0 9 0;looker 0 1 0 0 0;left 0;miss 1 0;back 0 1 0 1;";
        FlickedCrates x = Checks.of(two);
        x.day(0);
        Checks.row("two beside", x, 1, 0, 1);
        FlickedCrates y = Checks.of(two);
        y.day(1);
        Checks.row("two anywhere", y, 1, 0);
        Checks.row("two anywhere", y, 2, 1);
    }

    /** Each call lets its own day go by, whatever was asked ahead of it. */
    private static void eachItsOwn() {
        FlickedCrates x = Checks.of("crate 0;crate 5;crate 10;sleeve 5 9 0;looker 0 1 0 0 0;left 0;back 0 0 0 1;miss 1 0;");
        Checks.due("then by 1", x.then(0, 1), 2);
        Checks.due("then by 0", x.then(0, 0), 1);
        Checks.due("held by 1", x.would(1, 3), 2);
        // A second in each empty crate, and 6 where it is held up.
        Checks.due("gone by 0", x.buys(0, 0, 3), 1 + 6 + 1);
        Checks.due("gone by 1", x.buys(0, 1, 3), 1 + 6 + 6);
        Checks.due("gone by 0", x.would(0, 5), 1 + 6 + 1);
        x.round(0);
        Checks.due("then by 1", x.then(0, 1), 2);
    }

    private static void drawn(String text, int seed, int heldUp, int where) {
        FlickedCrates x = Checks.of(text);
        Checks.due(text + " by " + seed + ": held up", x.would(seed, 3), heldUp);
        Checks.due(text + " by " + seed + ": where", x.then(0, seed), where);
    }

    private static void missing() {
        String text = "crate 0;sleeve 0 1 9;sleeve 0 1 9;looker 0 4 0 99 999;";
        Checks.due("all missed", Checks.of(text + "miss 4 8;").would(123, 3), 0);
        Checks.due("none missed", Checks.of(text + "miss 4 0;").would(123, 3), 2);
        Checks.due("none missed: sold", Checks.of(text + "miss 4 0;").would(-5, 0), 2);
    }

    /** Six lookers, a full crate and stops of 30 seconds take more than a day. */
    private static void neverGone() {
        StringBuilder text = new StringBuilder("crate 0;");
        for (int i = 0; i < 24; i++) {
            text.append("sleeve 0 9 0;");
        }
        for (int i = 0; i < 6; i++) {
            text.append("looker 0 1 0 0 0;");
        }
        FlickedCrates x = Checks.of(text + "miss 1 0;stop 30;");
        int each = 24 + 24 * 30;
        for (int k = 0; k < 4; k++) {
            buys(x, k, 1, 0, 0, k * each, (k + 1) * each);
        }
        buys(x, 4, 1, 0, 0, 4 * each, -1);
        buys(x, 5, 1, 0, 0, 3600, -1);
        would(x, 1, 0, 0, (1 + 2 + 3 + 4) * each + 3600, 24 * 5, 0, -1);
        Checks.due("day", x.day(1), 0);
        // With one looker less all but the last are gone.
        FlickedCrates y = Checks.of(text.substring(0, text.length() - 17) + "miss 1 0;stop 30;");
        would(y, 1, 0, 0, (1 + 2 + 3 + 4) * each, 24 * 5, 0, -1);
        // 3,599 is the last second in which one may go.
        String full = "crate 0;" + "sleeve 0 9 0;".repeat(24) + "miss 1 0;miss 2 0;stop 29;";
        FlickedCrates last = Checks.of(full + "looker 11 1 0 0 0;".repeat(4) + "looker 11 2 0 0 0;");
        buys(last, 4, 1, 0, 0, 4 * 720, 11 + 4 * 720 + 708);
        would(last, 1, 0, 0, (1 + 2 + 3 + 4) * 720, 24 * 5, 0, 3599);
        FlickedCrates late = Checks.of(full + "looker 12 1 0 0 0;".repeat(4) + "looker 12 2 0 0 0;");
        buys(late, 4, 1, 0, 0, 4 * 720, -1);
        would(late, 1, 0, 0, (1 + 2 + 3 + 4) * 720, 24 * 5, 0, -1);
    }

    private static void emptyCrates() {
        FlickedCrates x = Checks.of("crate 0;crate 1;crate 2;looker 0 1 0 0 0;looker 0 1 0 0 0;");
        buys(x, 0, 1, 0, 0, 0, 3);
        buys(x, 1, 1, 0, 0, 1, 4);
        Checks.due("without lookers", Checks.of("crate 0;sleeve 0 1 9;").would(1, 5), 0);
    }

    private static void refusals() {
        FlickedCrates x = Checks.of("crate 0;sleeve 0 1 9;looker 0 1 0 0 0;");
        Checks.notFit("would(1, 6)", x, () -> x.would(1, 6));
        Checks.notFit("would(1, -1)", x, () -> x.would(1, -1));
        Checks.noSuch("buys(1, 1, 9)", x, () -> x.buys(1, 1, 9));
        Checks.noSuch("buys(-1, 1, 0)", x, () -> x.buys(-1, 1, 0));
        Checks.notFit("buys(0, 1, 4)", x, () -> x.buys(0, 1, 4));
        Checks.notFit("buys(0, 1, -1)", x, () -> x.buys(0, 1, -1));
        Checks.noSuch("then(1, 1)", x, () -> x.then(1, 1));
        Checks.noSuch("then(-1, 1)", x, () -> x.then(-1, 1));
    }
}
