/** Promises 6 to 13: crate, row, sleeve, looker, missed, lay, change, wander. */
public final class StockTest {
    private static final String TEXT = "crate 0;crate 5;crate 10;crate 20;sleeve 4 7 5;sleeve 5 4 9;sleeve 25 9 2;"
            + "sleeve 11 2 6;sleeve 0 99 0;lies 3 3;lies 0 3;disc 1 4;looker 600 8 9 99 999;looker 7 3 2 1 0;left 1;miss 5 8;";

    public static void main(String[] args) {
        crates();
        sleeves();
        lookers();
        laying();
        changing();
        wandering();
        Checks.end();
    }

    private static void crates() {
        FlickedCrates x = Checks.of(TEXT);
        int[] letters = {0, 5, 10, 20};
        for (int crate = 0; crate < 4; crate++) {
            Checks.due("letter of " + crate, x.crate(crate, 0), letters[crate]);
        }
        // By number, however the text has it.
        Checks.row("rows", x, 0, 4);
        Checks.row("rows", x, 1, 1);
        Checks.row("rows", x, 2);
        Checks.row("rows", x, 3, 0, 2, 3);
        Checks.due("row(3, -1)", x.row(3, -1), -1);
        Checks.due("row(3, MAX)", x.row(3, Integer.MAX_VALUE), -1);
        Checks.noCrate("crate(4, 0)", x, () -> x.crate(4, 0));
        Checks.noCrate("crate(-1, 9)", x, () -> x.crate(-1, 9));
        Checks.notFit("crate(0, 2)", x, () -> x.crate(0, 2));
        Checks.notFit("crate(0, -1)", x, () -> x.crate(0, -1));
        Checks.noCrate("row(4, 0)", x, () -> x.row(4, 0));
        Checks.noCrate("row(-1, 0)", x, () -> x.row(-1, 0));
    }

    private static void sleeves() {
        FlickedCrates x = Checks.of(TEXT);
        int[][] due = {{4, 7, 5, 0, 3, 0, 2}, {5, 4, 9, 1, 1, 4, 3}, {25, 9, 2, 3, 3, 2, 0}, {11, 2, 6, 2, 3, 3, 1},
            {0, 99, 0, 0, 0, 1, 3}};
        for (int s = 0; s < due.length; s++) {
            for (int what = 0; what < 7; what++) {
                Checks.due("sleeve(" + s + ", " + what + ")", x.sleeve(s, what), due[s][what]);
            }
        }
        Checks.noSuch("sleeve(5, 0)", x, () -> x.sleeve(5, 0));
        Checks.noSuch("sleeve(-1, 9)", x, () -> x.sleeve(-1, 9));
        Checks.notFit("sleeve(0, 7)", x, () -> x.sleeve(0, 7));
        Checks.notFit("sleeve(0, -1)", x, () -> x.sleeve(0, -1));
        // A sold one is sold ahead of all other kinds.
        FlickedCrates y = Checks.of("crate 0;sleeve 0 1 0;sleeve 0 1 0;disc 0 1;looker 0 1 0 9 9;miss 1 0;");
        y.day(1);
        Checks.due("where a sold one lies", y.sleeve(0, 4), -1);
        Checks.due("kind of a sold one", y.sleeve(0, 6), 4);
    }

    private static void lookers() {
        FlickedCrates x = Checks.of(TEXT);
        int[][] due = {{600, 8, 9, 99, 999, 0}, {7, 3, 2, 1, 0, 1}};
        for (int k = 0; k < 2; k++) {
            for (int what = 0; what < 6; what++) {
                Checks.due("looker(" + k + ", " + what + ")", x.looker(k, what), due[k][what]);
            }
        }
        Checks.noSuch("looker(2, 0)", x, () -> x.looker(2, 0));
        Checks.noSuch("looker(-1, 9)", x, () -> x.looker(-1, 9));
        Checks.notFit("looker(0, 6)", x, () -> x.looker(0, 6));
        Checks.notFit("looker(0, -1)", x, () -> x.looker(0, -1));
        Checks.due("missed(5)", x.missed(5), 8);
        Checks.due("missed(1)", x.missed(1), 0);
        Checks.due("missed(8)", x.missed(8), 7);
        Checks.notFit("missed(0)", x, () -> x.missed(0));
        Checks.notFit("missed(9)", x, () -> x.missed(9));
    }

    private static void laying() {
        FlickedCrates x = Checks.of(TEXT);
        Checks.due("lay(0, 3) in its own row", x.lay(0, 3), 3);
        Checks.row("laid behind all", x, 3, 2, 3, 0);
        Checks.due("lay(2, 0)", x.lay(2, 0), 3);
        Checks.row("from", x, 3, 3, 0);
        Checks.row("to", x, 0, 4, 2);
        Checks.due("lay(4, 1)", x.lay(4, 1), 0);
        Checks.row("to", x, 1, 1, 4);
        Checks.noCrate("lay(0, 4)", x, () -> x.lay(0, 4));
        Checks.noCrate("lay(9, -1)", x, () -> x.lay(9, -1));
        Checks.noSuch("lay(5, 0)", x, () -> x.lay(5, 0));
        FlickedCrates full = Checks.of("crate 0;" + "sleeve 0 1 0;".repeat(24));
        full.lay(3, 0);
        full.lay(22, 0);
        Checks.row("24", full, 0, 0, 1, 2, 4, 5, 6, 7, 8, 9, 10, 11, 12, 13, 14, 15, 16, 17, 18, 19, 20, 21, 23, 3, 22);
        FlickedCrates y = Checks.of("crate 0;sleeve 0 1 0;looker 0 1 0 9 9;miss 1 0;");
        y.day(1);
        Checks.sold("lay of a sold one", y, () -> y.lay(0, 0));
        Checks.noCrate("lay of a sold one in no crate", y, () -> y.lay(0, 1));
    }

    private static void changing() {
        FlickedCrates x = Checks.of(TEXT);
        Checks.due("change(0, 1)", x.change(0, 1), 4);
        Checks.due("disc of 0", x.sleeve(0, 5), 4);
        Checks.due("disc of 1", x.sleeve(1, 5), 0);
        Checks.due("disc of 4", x.sleeve(4, 5), 1);
        Checks.noSuch("change(0, 5)", x, () -> x.change(0, 5));
        Checks.noSuch("change(5, 5)", x, () -> x.change(5, 5));
        Checks.noSuch("change(-1, 0)", x, () -> x.change(-1, 0));
        Checks.notFit("change(2, 2)", x, () -> x.change(2, 2));
        FlickedCrates y = Checks.of("crate 0;sleeve 0 1 0;sleeve 0 2 0;looker 0 1 0 1 9;miss 1 0;");
        Checks.due("one is sold", y.day(1), 1);
        Checks.due("change with a sold one", y.change(0, 1), 1);
        Checks.due("kind of the other", y.sleeve(1, 6), 3);
    }

    private static void wandering() {
        FlickedCrates x = Checks.of(TEXT);
        dividers(x, 0, 1, 2, 3);
        Checks.due("wander(0, 2)", x.wander(0, 2), 0);
        dividers(x, 1, 2, 0, 3);
        Checks.due("wander(3, 0)", x.wander(3, 0), 3);
        dividers(x, 3, 1, 2, 0);
        Checks.due("wander(2, 2)", x.wander(2, 2), 2);
        dividers(x, 3, 1, 2, 0);
        Checks.due("wander(1, 3)", x.wander(1, 3), 1);
        dividers(x, 3, 2, 0, 1);
        Checks.noCrate("wander(4, 9)", x, () -> x.wander(4, 9));
        Checks.noCrate("wander(-1, 0)", x, () -> x.wander(-1, 0));
        Checks.notFit("wander(0, 4)", x, () -> x.wander(0, 4));
        Checks.notFit("wander(0, -1)", x, () -> x.wander(0, -1));
        dividers(x, 3, 2, 0, 1);
        Checks.due("divider(-1)", x.divider(-1), -1);
    }

    private static void dividers(FlickedCrates x, int... due) {
        for (int place = 0; place < due.length; place++) {
            Checks.due("divider(" + place + ")", x.divider(place), due[place]);
        }
        Checks.due("divider behind all", x.divider(due.length), -1);
    }
}
