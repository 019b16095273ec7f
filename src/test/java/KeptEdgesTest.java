/**
 * Promises 1, 6 to 13 and 33 to 36, sentence by sentence: what lies where, kinds, laying and changing, images, counts. Each
 * sentence of the document that names a bound stands over the test of it; refused calls are told by RefusalsTest.
 */
public final class KeptEdgesTest {
    private static final String EIGHT = "crate 0;crate 1;crate 2;crate 3;crate 4;crate 5;crate 6;crate 7;";

    public static void main(String[] args) {
        noCrates();
        lettersAndHowMany();
        ithOfItsRow();
        kindOff();
        kindSwapped();
        kindSold();
        laidBehindAll();
        laidInAFullRow();
        whoseDiscThen();
        threeImages();
        imageKeepsAll();
        imageKeepsNoMore();
        latestFirst();
        imagesGone();
        imageOfNothing();
        statusStays();
        counts();
        twoObjects();
        Checks.end();
    }

    /** "No CRATES": nor anything else. */
    private static void noCrates() {
        FlickedCrates x = new FlickedCrates();
        for (int what = 0; what < 3; what++) {
            Checks.due("told(" + what + ")", x.told(what), 0);
            Checks.due("count(" + what + ")", x.count(what), 0);
        }
        for (int what = 0; what < 4; what++) {
            Checks.due("status(" + what + ")", x.status(what), 0);
        }
        Checks.due("fault", x.fault(), -1);
        Checks.due("off", x.off(), 0);
        Checks.due("sort", x.sort(), 0);
        Checks.due("changes", x.changes(), 0);
        Checks.due("moves(0)", x.moves(0), 0);
        Checks.due("moves(1)", x.moves(1), 0);
        for (int k = 0; k <= 8; k++) {
            Checks.due("hidden(" + k + ")", x.hidden(k), 0);
        }
        Checks.noCrate("crate(0, 0)", x, () -> x.crate(0, 0));
        Checks.noCrate("row(0, 0)", x, () -> x.row(0, 0));
        Checks.noCrate("lay(0, 0)", x, () -> x.lay(0, 0));
        Checks.noCrate("wander(0, 0)", x, () -> x.wander(0, 0));
        Checks.noCrate("odds(0, 0, 0, 0)", x, () -> x.odds(0, 0, 0, 0));
        Checks.noSuch("sleeve(0, 0)", x, () -> x.sleeve(0, 0));
        Checks.noSuch("looker(0, 0)", x, () -> x.looker(0, 0));
        Checks.noSuch("change(0, 0)", x, () -> x.change(0, 0));
        Checks.noSuch("change(0, 1)", x, () -> x.change(0, 1));
        Checks.noSuch("buys(0, 1, 0)", x, () -> x.buys(0, 1, 0));
        Checks.noSuch("then(0, 1)", x, () -> x.then(0, 1));
        Checks.noSuch("order(0, 0, 1, 0)", x, () -> x.order(0, 0, 1, 0));
        Checks.noSuch("mean(0, 0, 1, 0)", x, () -> x.mean(0, 0, 1, 0));
    }

    /** "Of a CRATE: 0 its LETTER, 1 how many lie in it": none to 24. */
    private static void lettersAndHowMany() {
        FlickedCrates x = Checks.of("crate 0;crate 25;" + "sleeve 24 9 9;".repeat(24) + "looker 0 1 9 9 9;miss 1 0;");
        for (int s = 0; s < 24; s++) {
            Checks.due("in 0", x.crate(0, 1), 24 - s);
            Checks.due("in 1", x.crate(1, 1), s);
            x.lay(s, 1);
        }
        Checks.due("in 0", x.crate(0, 1), 0);
        Checks.due("in 1", x.crate(1, 1), 24);
        Checks.due("one is sold", x.day(3), 1);
        Checks.due("none lies in 1: the others are put into their own", x.crate(1, 1), 0);
        Checks.due("in 0", x.crate(0, 1), 23);
        Checks.due("letter 0", x.crate(0, 0), 0);
        Checks.due("letter 25", x.crate(1, 0), 25);
    }

    /** "The i-th SLEEVE of its row; NONE: none such". */
    private static void ithOfItsRow() {
        FlickedCrates x = Checks.of("crate 0;crate 3;crate 9;sleeve 9 1 0;sleeve 0 1 0;sleeve 9 1 0;");
        int[][] rows = {{1}, {}, {0, 2}};
        for (int c = 0; c < 3; c++) {
            for (int i : new int[] {Integer.MIN_VALUE, -1, 0, 1, 2, 3, 23, 24, Integer.MAX_VALUE}) {
                Checks.due("row(" + c + ", " + i + ")", x.row(c, i), i >= 0 && i < rows[c].length ? rows[c][i] : -1);
            }
        }
        FlickedCrates full = Checks.of("crate 0;" + "sleeve 0 1 0;".repeat(24));
        for (int i = 0; i < 24; i++) {
            Checks.due("row(0, " + i + ")", full.row(0, i), i);
        }
        Checks.due("row(0, 24)", full.row(0, 24), -1);
    }

    /** "by how many CRATES it lies off its OWN: 0 none, 1 one, 2 more": on either side. */
    private static void kindOff() {
        for (int own = 0; own < 8; own++) {
            FlickedCrates x = Checks.of(EIGHT + "sleeve " + own + " 1 0;");
            for (int c = 0; c < 8; c++) {
                x.lay(0, c);
                Checks.due("kind, own " + own + ", in " + c, x.sleeve(0, 6), Math.min(2, Math.abs(c - own)));
                Checks.due("own", x.sleeve(0, 3), own);
                Checks.due("where", x.sleeve(0, 4), c);
                Checks.due("off", x.off(), Math.abs(c - own));
            }
        }
    }

    /** "else 3 SWAPPED (another one's disc is in it)": wherever it lies. */
    private static void kindSwapped() {
        FlickedCrates x = Checks.of("crate 0;crate 5;crate 9;sleeve 0 1 0;sleeve 0 1 0;sleeve 0 1 0;disc 0 1;");
        for (int c = 0; c < 3; c++) {
            x.lay(0, c);
            x.lay(2, c);
            Checks.due("swapped", x.sleeve(0, 6), 3);
            Checks.due("swapped", x.sleeve(1, 6), 3);
            Checks.due("not swapped", x.sleeve(2, 6), c);
        }
        x.change(1, 0);
        Checks.due("its own again", x.sleeve(0, 6), 2);
        Checks.due("its own again", x.sleeve(1, 6), 0);
    }

    /** "4 SOLD", ahead of all others, though its disc is another one's; "where it lies (NONE: SOLD)". */
    private static void kindSold() {
        FlickedCrates x = Checks.of("crate 0;crate 5;sleeve 0 1 9;sleeve 0 1 0;lies 0 1;disc 0 1;looker 0 1 9 9 9;miss 1 0;");
        Checks.due("swapped", x.sleeve(0, 6), 3);
        x.day(3);
        int[] due = {0, 1, 9, 0, -1, 1, 4};
        for (int what = 0; what < 7; what++) {
            Checks.due("sleeve(0, " + what + ")", x.sleeve(0, what), due[what]);
        }
        Checks.due("the other one", x.sleeve(1, 6), 3);
        x.change(0, 1);
        Checks.due("its own disc", x.sleeve(0, 5), 0);
        Checks.due("sold as well", x.sleeve(0, 6), 4);
        Checks.due("the other one", x.sleeve(1, 6), 0);
    }

    /** "A SLEEVE that lies is laid behind all in a CRATE: where it lay": in another one, or where it lay. */
    private static void laidBehindAll() {
        FlickedCrates x = Checks.of("crate 0;crate 5;crate 9;sleeve 0 1 0;sleeve 0 1 0;sleeve 0 1 0;sleeve 9 1 0;");
        Checks.due("the first", x.lay(0, 0), 0);
        Checks.row("behind all", x, 0, 1, 2, 0);
        Checks.due("the last", x.lay(0, 0), 0);
        Checks.row("as it was", x, 0, 1, 2, 0);
        Checks.due("to the last crate", x.lay(2, 2), 0);
        Checks.row("left", x, 0, 1, 0);
        Checks.row("behind all", x, 2, 3, 2);
        Checks.due("to an empty one", x.lay(3, 1), 2);
        Checks.row("alone", x, 1, 3);
        Checks.row("left", x, 2, 2);
        Checks.due("and back", x.lay(3, 2), 1);
        Checks.row("behind all", x, 2, 2, 3);
        Checks.row("empty", x, 1);
        Checks.due("a single one to its own", x.lay(2, 0), 2);
        Checks.row("behind all", x, 0, 1, 0, 2);
        Checks.due("its disc came with it", x.sleeve(2, 5), 2);
    }

    private static void laidInAFullRow() {
        FlickedCrates x = Checks.of("crate 0;" + "sleeve 0 1 0;".repeat(24));
        for (int s = 0; s < 24; s++) {
            Checks.due("lay", x.lay(s, 0), 0);
            Checks.due("the last", x.row(0, 23), s);
            Checks.due("the first", x.row(0, 0), (s + 1) % 24);
            Checks.due("all lie there", x.crate(0, 1), 24);
        }
    }

    /** "Discs in two SLEEVES change places (also in SOLD ones): whose is in the first one then". */
    private static void whoseDiscThen() {
        FlickedCrates x = Checks.of("crate 0;" + "sleeve 0 9 0;".repeat(22) + "sleeve 0 1 9;sleeve 0 1 9;looker 0 1 9 9 2;miss 1 0;");
        Checks.due("the first and the last", x.change(0, 23), 23);
        Checks.due("the other way round", x.change(23, 0), 23);
        Checks.due("by another", x.change(23, 1), 1);
        Checks.due("and again", x.change(23, 0), 0);
        int[] due = {1, 23};
        Checks.due("disc in 0", x.sleeve(0, 5), due[0]);
        Checks.due("disc in 1", x.sleeve(1, 5), due[1]);
        Checks.due("disc in 23", x.sleeve(23, 5), 0);
        Checks.due("two are sold", x.day(3), 2);
        Checks.due("both sold", x.change(22, 23), 0);
        Checks.due("the second one sold", x.change(0, 22), 0);
        Checks.due("the first one sold", x.change(22, 2), 2);
        Checks.row("none moved", x, 0, 0, 1, 2, 3, 4, 5, 6, 7, 8, 9, 10, 11, 12, 13, 14, 15, 16, 17, 18, 19, 20, 21);
    }

    /** "how many there are; -1: there are 3"; "how many are left; -1: there is none". */
    private static void threeImages() {
        FlickedCrates x = Checks.of("crate 0;crate 5;sleeve 0 1 0;");
        Checks.due("none", x.restore(), -1);
        for (int round = 0; round < 3; round++) {
            for (int i = 1; i <= 3; i++) {
                Checks.due("image", x.image(), i);
                Checks.due("count(0)", x.count(0), i);
            }
            Checks.due("there are 3", x.image(), -1);
            Checks.due("there are 3", x.image(), -1);
            Checks.due("count(0)", x.count(0), 3);
            for (int i = 2; i >= 0; i--) {
                Checks.due("restore", x.restore(), i);
                Checks.due("count(0)", x.count(0), i);
            }
            Checks.due("there is none", x.restore(), -1);
            Checks.due("there is none", x.restore(), -1);
            Checks.due("count(0)", x.count(0), 0);
        }
    }

    /** "An IMAGE of what lies where, discs, DIVIDERS": rows in their order and sold ones too. */
    private static void imageKeepsAll() {
        FlickedCrates x = Checks.of("crate 0;crate 5;crate 9;sleeve 0 1 0;sleeve 0 1 0;sleeve 0 1 0;sleeve 9 1 9;looker 0 1 9 9 9;miss 1 0;");
        x.lay(0, 0);
        x.lay(1, 1);
        x.change(2, 3);
        x.wander(2, 0);
        Checks.due("image", x.image(), 1);
        x.day(3);
        x.lay(2, 0);
        x.lay(1, 2);
        x.change(0, 3);
        x.wander(0, 2);
        Checks.due("sold", x.count(2), 1);
        Checks.due("restore", x.restore(), 0);
        Checks.row("rows", x, 0, 2, 0);
        Checks.row("rows", x, 1, 1);
        Checks.row("rows", x, 2, 3);
        Checks.due("none is sold", x.count(2), 0);
        int[] discs = {0, 1, 3, 2};
        for (int s = 0; s < 4; s++) {
            Checks.due("disc in " + s, x.sleeve(s, 5), discs[s]);
        }
        int[] dividers = {2, 0, 1};
        for (int place = 0; place < 3; place++) {
            Checks.due("divider at " + place, x.divider(place), dividers[place]);
        }
        // What is sold in an image is sold when it is restored.
        x.day(3);
        x.image();
        x.lay(2, 2);
        x.restore();
        Checks.due("sold", x.sleeve(3, 4), -1);
        Checks.row("rows", x, 0, 2, 0);
    }

    /** The tape, the fault and what is refused are no part of an image; an image changes nothing. */
    private static void imageKeepsNoMore() {
        FlickedCrates x = Checks.of("crate 0;crate 5;sleeve 0 1 0;");
        x.image();
        Checks.due("a fault", Checks.shop(x, "crate 0;!"), -9);
        x.feed(1, 2, 3, 4, 5);
        Checks.noCrate("one refused", x, () -> x.row(2, 0));
        x.restore();
        Checks.due("the tape", x.count(1), 20);
        Checks.due("the fault", x.fault(), 8);
        Checks.due("refused", x.status(0), 1);
        // A fourth image changes none of the three.
        for (int i = 0; i < 3; i++) {
            x.lay(0, i % 2);
            x.image();
        }
        x.lay(0, 1);
        Checks.due("a fourth", x.image(), -1);
        Checks.due("where", x.sleeve(0, 4), 1);
        x.restore();
        Checks.due("the third", x.sleeve(0, 4), 0);
    }

    /** "All is as in the latest IMAGE, which is gone". */
    private static void latestFirst() {
        FlickedCrates x = Checks.of(EIGHT + "sleeve 0 1 0;sleeve 0 1 0;");
        for (int i = 0; i < 3; i++) {
            x.lay(0, i + 1);
            x.change(0, 1);
            x.wander(0, i + 1);
            x.image();
        }
        x.lay(0, 7);
        x.wander(0, 7);
        for (int i = 2; i >= 0; i--) {
            Checks.due("restore", x.restore(), i);
            Checks.due("where", x.sleeve(0, 4), i + 1);
            Checks.due("disc", x.sleeve(0, 5), i == 1 ? 0 : 1);
            Checks.due("divider", x.divider(i + 1), 0);
            // What is done between does not come into those that are left.
            x.lay(0, 6);
            x.change(0, 1);
            x.wander(0, 0);
        }
        Checks.due("none", x.restore(), -1);
        Checks.due("where, none was left", x.sleeve(0, 4), 6);
        Checks.due("the next one is a first", x.image(), 1);
    }

    /** "(IMAGES gone)": by a shop, of nothing too; "how many SLEEVES; or the FAULT less 10 (all but the TAPE stays)". */
    private static void imagesGone() {
        for (String text : new String[] {"", "crate 0;", "crate 0;crate 5;sleeve 0 1 0;"}) {
            FlickedCrates x = Checks.of("crate 0;crate 5;sleeve 0 1 0;");
            x.image();
            x.image();
            Checks.due("a fault", Checks.shop(x, "crate 0;crate"), -9);
            Checks.due("stay", x.count(0), 2);
            Checks.notFit("refused", x, () -> x.shop(-1));
            Checks.due("stay", x.count(0), 2);
            Checks.shop(x, text);
            Checks.due("gone", x.count(0), 0);
            Checks.due("none", x.restore(), -1);
            for (int i = 1; i <= 3; i++) {
                Checks.due("three anew", x.image(), i);
            }
        }
    }

    private static void imageOfNothing() {
        FlickedCrates x = new FlickedCrates();
        Checks.due("image", x.image(), 1);
        Checks.due("image", x.image(), 2);
        Checks.due("restore", x.restore(), 1);
        Checks.due("crates", x.told(0), 0);
        Checks.due("restore", x.restore(), 0);
        Checks.due("restore", x.restore(), -1);
    }

    /** "How many calls were refused .. NONE for others. (No IMAGE keeps it, shop() leaves it.)" */
    private static void statusStays() {
        FlickedCrates x = Checks.of("crate 0;sleeve 0 1 0;looker 0 1 0 9 9;miss 1 0;");
        x.image();
        for (int i = 0; i < 3; i++) {
            Checks.noCrate("no crate", x, () -> x.crate(1, 0));
            Checks.notFit("no what", x, () -> x.crate(0, 2));
            Checks.noSuch("no sleeve", x, () -> x.sleeve(1, 0));
            Checks.noSuch("no looker", x, () -> x.looker(1, 0));
        }
        x.day(3);
        Checks.sold("sold", x, () -> x.lay(0, 0));
        int[] due = {3, 6, 3, 1};
        for (int round = 0; round < 4; round++) {
            for (int what = 0; what < 4; what++) {
                Checks.due("status(" + what + ")", x.status(what), due[what]);
            }
            for (int what : new int[] {-1, 4, 5, Integer.MAX_VALUE, Integer.MIN_VALUE}) {
                Checks.due("status(" + what + ")", x.status(what), -1);
            }
            if (round == 0) {
                x.restore();
            } else if (round == 1) {
                Checks.shop(x, "crate 0;");
            } else {
                Checks.shop(x, "crate");
            }
        }
    }

    /** "0 IMAGES, 1 bytes of the TAPE, 2 SLEEVES SOLD; NONE for others". */
    private static void counts() {
        FlickedCrates x = Checks.of("crate 0;" + "sleeve 0 1 0;".repeat(24) + "looker 0 1 0 9 12;miss 1 0;");
        int[] sold = {0, 12, 24, 24};
        for (int day = 0; day < 4; day++) {
            Checks.due("sold", x.count(2), sold[day]);
            x.day(day);
        }
        Checks.due("no images", x.count(0), 0);
        for (int i = 1; i <= 30; i++) {
            x.feed(0, 0, 0, 0, 0);
            Checks.due("bytes", x.count(1), 20 * i);
        }
        x.feed(0, 0, 0, 0, 0);
        Checks.due("no more bytes", x.count(1), 600);
        for (int what : new int[] {-1, 3, 4, Integer.MAX_VALUE, Integer.MIN_VALUE}) {
            Checks.due("count(" + what + ")", x.count(what), -1);
        }
        x.shop(1);
        Checks.due("no bytes", x.count(1), 0);
        Checks.due("a fault: sold as before", x.count(2), 24);
        x.shop(0);
        Checks.due("none sold", x.count(2), 0);
    }

    /** What one object holds is its own. */
    private static void twoObjects() {
        FlickedCrates x = Checks.of("crate 0;crate 5;sleeve 0 1 0;");
        FlickedCrates y = Checks.of("crate 0;sleeve 0 9 9;sleeve 0 9 9;");
        x.image();
        x.lay(0, 1);
        x.feed(1, 1, 1, 1, 1);
        Checks.noCrate("refused", x, () -> x.row(5, 0));
        Checks.due("tape", y.count(1), 0);
        Checks.due("images", y.count(0), 0);
        Checks.due("refused", y.status(0), 0);
        Checks.row("row", y, 0, 0, 1);
        Checks.due("crates", y.told(0), 1);
        Checks.row("row", x, 1, 0);
    }
}
