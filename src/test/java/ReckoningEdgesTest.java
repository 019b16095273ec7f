/**
 * Promises 24 to 32, sentence by sentence: baskets, sorting and how often, discs, dividers, getting up. Each sentence of the
 * document that names a bound stands over the test of it.
 */
public final class ReckoningEdgesTest {
    private static final String EIGHT = "crate 0;crate 1;crate 2;crate 3;crate 4;crate 5;crate 6;crate 7;";

    public static void main(String[] args) {
        noMore();
        mostGood();
        leastPrice();
        leastBits();
        basketOfThoseThatLie();
        fullBasket();
        offTheirOwn();
        sortedByNumber();
        offTogether();
        everyNDays();
        leastN();
        costInLeastTerms();
        mostCost();
        leastSleeveFirst();
        fewestChanges();
        noChanges();
        takenOutAndPut();
        noDivider();
        movesAtLeast();
        leastThatStay();
        shareAlike();
        paysForEachHour();
        restsByBounds();
        rowsAsDigits();
        Checks.end();
    }

    private static void basket(FlickedCrates x, int money, int good, int price, int bits) {
        Checks.due("basket(" + money + ", 0)", x.basket(money, 0), good);
        Checks.due("basket(" + money + ", 1)", x.basket(money, 1), price);
        Checks.due("basket(" + money + ", 2)", x.basket(money, 2), bits);
    }

    /** "whose prices together are no more": just as much, and one less. */
    private static void noMore() {
        FlickedCrates x = Checks.of("crate 0;sleeve 0 1 3;sleeve 0 30 4;sleeve 0 99 9;");
        basket(x, 0, 0, 0, 0);
        basket(x, 1, 3, 1, 1);
        basket(x, 29, 3, 1, 1);
        basket(x, 30, 4, 30, 2);
        basket(x, 31, 7, 31, 3);
        basket(x, 98, 7, 31, 3);
        basket(x, 99, 9, 99, 4);
        basket(x, 100, 12, 100, 5);
        basket(x, 128, 12, 100, 5);
        basket(x, 129, 13, 129, 6);
        basket(x, 130, 16, 130, 7);
        basket(x, 999, 16, 130, 7);
    }

    /** "of the most GOOD together": many of little good against one of much. */
    private static void mostGood() {
        FlickedCrates x = Checks.of("crate 0;sleeve 0 10 9;sleeve 0 4 4;sleeve 0 3 3;sleeve 0 3 3;");
        basket(x, 10, 10, 10, 14);
        basket(x, 9, 7, 7, 6);
        basket(x, 13, 12, 13, 5);
        basket(x, 14, 13, 14, 3);
        // What is good for nothing is not taken: of alike ones the least price.
        basket(Checks.of("crate 0;sleeve 0 1 0;sleeve 0 1 0;"), 999, 0, 0, 0);
        basket(Checks.of("crate 0;sleeve 0 1 0;sleeve 0 1 1;"), 999, 1, 1, 2);
    }

    /** "of these of the least price". */
    private static void leastPrice() {
        FlickedCrates x = Checks.of("crate 0;sleeve 0 9 5;sleeve 0 8 5;sleeve 0 7 5;sleeve 0 7 2;sleeve 0 2 3;");
        basket(x, 8, 5, 7, 4);
        basket(x, 7, 5, 7, 4);
        basket(x, 6, 3, 2, 16);
        // 2 and 4 are 8 for 9; 1 and 4, 0 and 4 are it for more.
        basket(x, 9, 8, 9, 20);
        basket(x, 10, 8, 9, 20);
        basket(x, 11, 8, 9, 20);
        basket(x, 15, 10, 15, 6);
        basket(x, 16, 10, 15, 6);
        // 9 of good for 2 and 2, or for 5.
        basket(Checks.of("crate 0;sleeve 0 5 9;sleeve 0 2 5;sleeve 0 2 4;"), 5, 9, 4, 6);
    }

    /** "of these the least (bits)". */
    private static void leastBits() {
        FlickedCrates x = Checks.of("crate 0;" + "sleeve 0 5 5;".repeat(24));
        for (int many = 0; many <= 24; many++) {
            basket(x, 5 * many, 5 * many, 5 * many, (1 << many) - 1);
            basket(x, 5 * many + 4, 5 * many, 5 * many, (1 << many) - 1);
        }
        // 3 of good for 3: 0 and 1 (3), or 2 alone (4); by number it may be the other way round.
        basket(Checks.of("crate 0;sleeve 0 1 1;sleeve 0 2 2;sleeve 0 3 3;"), 3, 3, 3, 3);
        basket(Checks.of("crate 0;sleeve 0 3 3;sleeve 0 2 2;sleeve 0 1 1;"), 3, 3, 3, 1);
        basket(Checks.of("crate 0;sleeve 0 2 2;sleeve 0 3 3;sleeve 0 1 1;"), 3, 3, 3, 2);
        basket(Checks.of("crate 0;sleeve 0 1 1;sleeve 0 4 4;sleeve 0 2 2;sleeve 0 3 3;"), 5, 5, 5, 3);
        basket(Checks.of("crate 0;sleeve 0 4 4;sleeve 0 2 2;sleeve 0 3 3;sleeve 0 1 1;"), 5, 5, 5, 6);
    }

    /** "SLEEVES that lie": in whichever crate, and not those sold. */
    private static void basketOfThoseThatLie() {
        FlickedCrates x = Checks.of("crate 0;crate 5;sleeve 0 3 5;sleeve 9 4 6;sleeve 9 5 9;lies 0 1;looker 0 1 9 5 5;miss 1 0;");
        basket(x, 12, 20, 12, 7);
        Checks.due("2 is sold", x.day(3), 1);
        basket(x, 12, 11, 7, 3);
        basket(x, 4, 6, 4, 2);
        FlickedCrates none = Checks.of("crate 0;sleeve 0 1 9;sleeve 0 1 9;looker 0 1 0 9 9;miss 1 0;");
        none.day(3);
        basket(none, 999, 0, 0, 0);
        basket(new FlickedCrates(), 0, 0, 0, 0);
        basket(new FlickedCrates(), 999, 0, 0, 0);
        // The disc in it does not count.
        FlickedCrates swapped = Checks.of("crate 0;sleeve 0 3 5;sleeve 0 4 6;disc 0 1;");
        basket(swapped, 3, 5, 3, 1);
    }

    /** All 24, dear ones: 999 is the most that a basket may cost. */
    private static void fullBasket() {
        FlickedCrates x = Checks.of("crate 0;sleeve 0 9 1;" + "sleeve 0 99 9;".repeat(23));
        basket(x, 999, 91, 999, 2047);
        basket(x, 998, 90, 990, 2046);
        basket(x, 990, 90, 990, 2046);
        basket(x, 989, 82, 900, 1023);
        FlickedCrates all = Checks.of("crate 0;sleeve 0 33 9;" + "sleeve 0 42 9;".repeat(23));
        basket(all, 999, 24 * 9, 33 + 23 * 42, (1 << 24) - 1);
        basket(all, 998, 23 * 9, 33 + 22 * 42, (1 << 23) - 1);
    }

    /** "all that lie off their OWN CRATES go there, by number": by one or by more, ahead or behind, the first and the last. */
    private static void offTheirOwn() {
        FlickedCrates x = Checks.of(EIGHT + "sleeve 0 1 0;sleeve 1 1 0;sleeve 4 1 0;sleeve 7 1 0;sleeve 7 1 0;sleeve 0 1 0;lies 0 1;lies 1 0;"
                + "lies 3 0;lies 5 7;");
        Checks.due("went", x.sort(), 4);
        int[] own = {0, 1, 4, 7, 7, 0};
        for (int s = 0; s < 6; s++) {
            Checks.due("where " + s + " lies", x.sleeve(s, 4), own[s]);
            Checks.due("kind of " + s, x.sleeve(s, 6), 0);
        }
        Checks.row("those that lay there lie ahead", x, 7, 4, 3);
        Checks.row("both came", x, 0, 0, 5);
        Checks.due("again", x.sort(), 0);
        Checks.row("as it was", x, 7, 4, 3);
        // Of 24 the last one.
        FlickedCrates full = Checks.of("crate 0;crate 1;" + "sleeve 0 1 0;".repeat(24) + "lies 23 1;");
        Checks.due("the last one", full.sort(), 1);
        Checks.due("in its own", full.sleeve(23, 4), 0);
        for (int s = 0; s < 24; s++) {
            full.lay(s, 1);
        }
        Checks.due("all", full.sort(), 24);
        Checks.due("a new object", new FlickedCrates().sort(), 0);
        Checks.due("no sleeves", Checks.of("crate 0;").sort(), 0);
    }

    /** "by number", not by row; what lies in its own is not laid anew; discs and dividers stay; sold ones stay sold. */
    private static void sortedByNumber() {
        FlickedCrates x = Checks.of("crate 0;crate 1;crate 2;sleeve 0 1 0;sleeve 0 1 0;sleeve 0 1 0;sleeve 0 1 0;sleeve 2 1 9;disc 0 3;"
                + "looker 0 1 9 9 9;miss 1 0;");
        x.lay(3, 2);
        x.lay(1, 1);
        x.lay(0, 2);
        x.wander(0, 2);
        x.day(3);
        Checks.due("went", x.sort(), 3);
        Checks.row("2 lay there, the others by number", x, 0, 2, 0, 1, 3);
        Checks.row("none", x, 1);
        Checks.row("none", x, 2);
        Checks.due("disc", x.sleeve(0, 5), 3);
        Checks.due("kind: another one's disc", x.sleeve(0, 6), 3);
        Checks.due("divider", x.divider(2), 0);
        Checks.due("sold", x.sleeve(4, 4), -1);
    }

    /** "by how many CRATES all that lie lie off their OWN ones, together". */
    private static void offTogether() {
        Checks.due("a new object", new FlickedCrates().off(), 0);
        StringBuilder text = new StringBuilder(EIGHT + "sleeve 0 9 9;".repeat(12) + "sleeve 7 9 9;".repeat(12));
        FlickedCrates x = Checks.of(text.toString());
        for (int s = 0; s < 24; s++) {
            Checks.due("off", x.off(), 7 * s);
            x.lay(s, s < 12 ? 7 : 0);
        }
        Checks.due("all by seven", x.off(), 168);
        x.lay(0, 1);
        x.lay(23, 6);
        Checks.due("two by one", x.off(), 22 * 7 + 2);
        FlickedCrates sold = Checks.of(text + "looker 0 1 0 9 9;miss 1 0;");
        sold.lay(0, 7);
        sold.lay(12, 0);
        sold.lay(1, 0);
        Checks.due("two by seven", sold.off(), 14);
        // 2 is the first in the first crate; money for one alone; the others are put back into their own.
        sold.day(3);
        Checks.due("put back", sold.off(), 0);
    }

    private static void often(int b, int w, int d, int n, int above, int below) {
        FlickedCrates x = new FlickedCrates();
        String call = "often(" + b + ", " + w + ", " + d + ", ";
        Checks.due(call + "0)", x.often(b, w, d, 0), n);
        Checks.due(call + "1)", x.often(b, w, d, 1), above);
        Checks.due(call + "2)", x.often(b, w, d, 2), below);
    }

    /** "every n days (1 to 60)". */
    private static void everyNDays() {
        often(0, 0, 0, 1, 0, 1);
        often(0, 1, 0, 1, 1, 1);
        often(0, 99, 99, 1, 99, 1);
        often(1, 0, 0, 60, 1, 60);
        often(9999, 0, 99, 60, 3333, 20);
        often(9999, 99, 0, 60, 5313, 20);
        // b is d w n (n less 1) by 2 just between 59 and 60.
        often(3541, 1, 2, 60, 7141, 60);
        often(3539, 1, 2, 59, 7020, 59);
    }

    /** "the n of the least cost by n, of these the least": n and one more cost alike if b is d w n (n and 1) by 2. */
    private static void leastN() {
        for (int n = 1; n < 60; n++) {
            FlickedCrates x = new FlickedCrates();
            int b = n * (n + 1);
            Checks.due("alike at " + n, x.often(b, 1, 2, 0), n);
            Checks.due("one more at " + n, x.often(b + 1, 1, 2, 0), n + 1);
            Checks.due("one less at " + n, x.often(b - 1, 1, 2, 0), n == 1 && b - 1 == 0 ? 1 : n);
            Checks.due("cost by " + n, x.often(b, 1, 2, 1), b / n + 1 + n - 1);
            Checks.due("below by " + n, x.often(b, 1, 2, 2), 1);
        }
        // By w for d as well.
        often(12, 2, 1, 3, 8, 1);
    }

    /** "above, below, in least terms". */
    private static void costInLeastTerms() {
        often(100, 2, 3, 6, 101, 3);
        often(7, 0, 0, 60, 7, 60);
        often(60, 0, 0, 60, 1, 1);
        often(30, 0, 0, 60, 1, 2);
        often(5, 1, 5, 1, 6, 1);
        often(6, 1, 5, 2, 13, 2);
    }

    /** The greatest costs there are do not wrap around. */
    private static void mostCost() {
        // n 1: 10,098; n 2: (9,999 and 198 and 9,801) by 2.
        often(9999, 99, 99, 2, 9999, 1);
        // n 14: 9,999 and 1,386 and 9,009 by 14; 9,999 and 14 and 9,009.
        often(9999, 99, 1, 14, 10197, 7);
        often(9999, 1, 99, 14, 9511, 7);
    }

    private static void changes(FlickedCrates x, int... due) {
        Checks.due("changes()", x.changes(), due.length);
        for (int i = 0; i < due.length; i++) {
            Checks.due("changed(" + i + ")", x.changed(i), due[i]);
        }
        for (int i : new int[] {-1, due.length, due.length + 1, 24, Integer.MAX_VALUE, Integer.MIN_VALUE}) {
            Checks.due("changed(" + i + "): none such", x.changed(i), -1);
        }
    }

    /** "each time the least SLEEVE in which another one's disc is changes with that in which its own is". */
    private static void leastSleeveFirst() {
        String five = "crate 0;sleeve 0 1 0;sleeve 0 1 0;sleeve 0 1 0;sleeve 0 1 0;sleeve 0 1 0;";
        changes(Checks.of(five + "disc 3 4;"), 304);
        changes(Checks.of(five + "disc 4 3;"), 304);
        changes(Checks.of(five + "disc 0 4;disc 1 3;"), 4, 103);
        // In 0 is 1's, in 1 is 2's, in 2 is 0's: 0 with 2, then 1's is in 2.
        FlickedCrates x = Checks.of(five + "disc 0 1;disc 1 2;");
        Checks.due("in 0", x.sleeve(0, 5), 1);
        Checks.due("in 1", x.sleeve(1, 5), 2);
        Checks.due("in 2", x.sleeve(2, 5), 0);
        changes(x, 2, 102);
        // The other way round: in 0 is 2's, in 1 is 0's.
        FlickedCrates y = Checks.of(five + "disc 0 1;disc 0 2;");
        changes(y, 1, 102);
    }

    /** "the fewest changes of two discs that bring all into their own SLEEVES": done so, all are there. */
    private static void fewestChanges() {
        FlickedCrates pairs = Checks.of("crate 0;" + "sleeve 0 1 0;".repeat(24));
        for (int s = 0; s < 24; s += 2) {
            pairs.change(s, s + 1);
        }
        Checks.due("12 pairs", pairs.changes(), 12);
        Checks.due("the last pair", pairs.changed(11), 2223);
        FlickedCrates round = Checks.of("crate 0;" + "sleeve 0 1 0;".repeat(24));
        for (int s = 0; s < 23; s++) {
            round.change(s, s + 1);
        }
        Checks.due("a round of 24", round.changes(), 23);
        int[] listed = new int[23];
        for (int i = 0; i < 23; i++) {
            listed[i] = round.changed(i);
        }
        for (int i = 0; i < 23; i++) {
            Checks.due("still to do", round.changes(), 23 - i);
            round.change(listed[i] / 100, listed[i] % 100);
            Checks.due("its own disc is in it", round.sleeve(listed[i] / 100, 5), listed[i] / 100);
        }
        changes(round);
    }

    /** None without sleeves, with all in their own, or with a single one; discs of sold ones count, and asking changes nothing. */
    private static void noChanges() {
        changes(new FlickedCrates());
        changes(Checks.of("crate 0;"));
        changes(Checks.of("crate 0;sleeve 0 1 0;"));
        changes(Checks.of("crate 0;sleeve 0 1 0;sleeve 0 1 0;disc 0 1;disc 1 0;"));
        FlickedCrates x = Checks.of("crate 0;sleeve 0 1 9;sleeve 0 1 0;disc 0 1;looker 0 1 9 9 9;miss 1 0;");
        x.day(3);
        Checks.due("0 is sold", x.sleeve(0, 6), 4);
        changes(x, 1);
        changes(x, 1);
        Checks.due("change of a sold one", x.change(0, 1), 0);
        changes(x);
        // Where sleeves lie does not count.
        FlickedCrates laid = Checks.of("crate 0;crate 5;sleeve 0 1 0;sleeve 9 1 0;");
        laid.lay(0, 1);
        changes(laid);
    }

    private static void row(FlickedCrates x, int... due) {
        for (int place = 0; place < due.length; place++) {
            Checks.due("divider(" + place + ")", x.divider(place), due[place]);
        }
        Checks.due("divider behind", x.divider(due.length), -1);
    }

    /** "DIVIDERS stand in a row, at first by number; one may WANDER: it is taken out and put at a place (0 the first)". */
    private static void takenOutAndPut() {
        FlickedCrates x = Checks.of(EIGHT);
        row(x, 0, 1, 2, 3, 4, 5, 6, 7);
        Checks.due("from the first to the last", x.wander(0, 7), 0);
        row(x, 1, 2, 3, 4, 5, 6, 7, 0);
        Checks.due("from the last to the first", x.wander(0, 0), 7);
        row(x, 0, 1, 2, 3, 4, 5, 6, 7);
        Checks.due("by one behind", x.wander(3, 4), 3);
        row(x, 0, 1, 2, 4, 3, 5, 6, 7);
        Checks.due("by one ahead", x.wander(3, 3), 4);
        row(x, 0, 1, 2, 3, 4, 5, 6, 7);
        Checks.due("between", x.wander(2, 5), 2);
        row(x, 0, 1, 3, 4, 5, 2, 6, 7);
        Checks.due("between", x.wander(6, 1), 6);
        row(x, 0, 6, 1, 3, 4, 5, 2, 7);
        for (int place = 0; place < 8; place++) {
            Checks.due("where it stands", x.wander(x.divider(place), place), place);
            row(x, 0, 6, 1, 3, 4, 5, 2, 7);
        }
        // Crates stay where they are.
        Checks.due("letter of crate 0", x.crate(0, 0), 0);
        Checks.due("letter of crate 6", x.crate(6, 0), 6);
        FlickedCrates one = Checks.of("crate 0;");
        Checks.due("one alone", one.wander(0, 0), 0);
        row(one, 0);
        // A next shop has its own, by number.
        Checks.shop(x, "crate 0;crate 1;");
        row(x, 0, 1);
    }

    /** "Which DIVIDER stands at a place; NONE: none such". */
    private static void noDivider() {
        for (int crates = 0; crates <= 8; crates++) {
            FlickedCrates x = Checks.of(EIGHT.substring(0, 8 * crates));
            for (int place : new int[] {-1, crates, crates + 1, 8, Integer.MAX_VALUE, Integer.MIN_VALUE}) {
                Checks.due("divider(" + place + ") of " + crates, x.divider(place), -1);
            }
            for (int place = 0; place < crates; place++) {
                Checks.due("divider(" + place + ") of " + crates, x.divider(place), place);
            }
        }
    }

    private static void stand(int moves, int stay, int... due) {
        FlickedCrates x = Checks.of(EIGHT.substring(0, 8 * due.length));
        for (int place = 0; place < due.length; place++) {
            x.wander(due[place], place);
        }
        row(x, due);
        Checks.due("moves(0)", x.moves(0), moves);
        Checks.due("moves(1)", x.moves(1), stay);
        row(x, due);
    }

    /** "how many must be taken out and put elsewhere, at least, so that they stand by number". */
    private static void movesAtLeast() {
        stand(0, 0);
        stand(0, 1, 0);
        stand(0, 3, 0, 1);
        stand(1, 1, 1, 0);
        stand(0, 255, 0, 1, 2, 3, 4, 5, 6, 7);
        stand(7, 1, 7, 6, 5, 4, 3, 2, 1, 0);
        stand(1, 254, 1, 2, 3, 4, 5, 6, 7, 0);
        stand(1, 127, 7, 0, 1, 2, 3, 4, 5, 6);
        stand(4, 15, 4, 5, 6, 7, 0, 1, 2, 3);
        stand(1, 255 - 8, 0, 1, 2, 4, 5, 6, 3, 7);
    }

    /** "of the sets that may stay then the least (bits)". */
    private static void leastThatStay() {
        stand(2, 1, 2, 1, 0);
        stand(2, 5, 1, 0, 3, 2);
        stand(4, 85, 1, 0, 3, 2, 5, 4, 7, 6);
        stand(3, 16 + 8 + 4 + 2 + 1, 5, 6, 0, 7, 1, 2, 3, 4);
        stand(2, 3, 2, 3, 0, 1);
        stand(1, 3, 0, 2, 1);
    }

    private static void rests(int n, int h, int c, int v, int many, int first) {
        FlickedCrates x = new FlickedCrates();
        String call = "rests(" + n + ", " + h + ", " + c + ", " + v + ", ";
        Checks.due(call + "0)", x.rests(n, h, c, v, 0), many);
        Checks.due(call + "1)", x.rests(n, h, c, v, 1), first);
    }

    /** "those who come at the first hour at which any does share v alike": also what is no whole number. */
    private static void shareAlike() {
        // It costs nothing: each half, third or quarter of 1 is more than nothing.
        for (int n = 2; n <= 4; n++) {
            for (int h = 2; h <= 4; h++) {
                rests(n, h, 0, 1, 1, 0);
                rests(n, h, 0, 999, 1, 0);
            }
        }
        // A share of 1 and half against 1 for the hour: both come first; of 1 it is as good as none to come.
        rests(2, 2, 1, 3, 1, 0);
        rests(2, 2, 1, 2, 4, 0);
        rests(2, 2, 1, 1, 1, 11);
        // A third of 4 is more than 1, a third of 2 is less; of 3 just as much.
        rests(3, 2, 1, 4, 1, 0);
        rests(3, 2, 1, 3, 4, 0);
        rests(3, 2, 1, 2, 6, 1);
        // A quarter of 5, 4 and 3.
        rests(4, 2, 1, 5, 1, 0);
        rests(4, 2, 1, 4, 5, 0);
        rests(4, 2, 1, 3, 10, 1);
    }

    /** "each pays c (0 to 99) for each hour that he comes ahead of the last one", whether he has a share or not. */
    private static void paysForEachHour() {
        rests(2, 2, 3, 10, 1, 0);
        rests(2, 2, 5, 10, 4, 0);
        rests(2, 2, 6, 10, 1, 11);
        rests(3, 4, 99, 1, 1, 333);
        rests(4, 2, 99, 999, 1, 0);
        rests(2, 4, 99, 999, 1, 0);
        // At the last one none pays.
        rests(2, 2, 99, 1, 1, 11);
        rests(4, 4, 99, 1, 1, 3333);
    }

    /** n and h of 2 to 4, c of 0 to 99, v of 1 to 999: at and beside their bounds, against a count by hand of fractions. */
    private static void restsByBounds() {
        for (int n = 2; n <= 4; n++) {
            for (int h = 2; h <= 4; h++) {
                for (int c : new int[] {0, 1, 2, 33, 98, 99}) {
                    for (int v : new int[] {1, 2, 3, 4, 6, 12, 99, 100, 198, 297, 396, 594, 998, 999}) {
                        int[] due = counted(n, h, c, v);
                        rests(n, h, c, v, due[0], due[1]);
                    }
                }
            }
        }
    }

    /** What one gets is above by below: v by those who share it, less c for each hour. */
    private static int[] counted(int n, int h, int c, int v) {
        int many = 0;
        int first = -1;
        for (int digits = 0; digits < 10000; digits++) {
            int[] hours = {digits / 1000, digits / 100 % 10, digits / 10 % 10, digits % 10};
            boolean row = true;
            for (int i = 0; i < 4; i++) {
                row &= i < 4 - n ? hours[i] == 0 : hours[i] < h;
            }
            if (row && still(hours, n, h, c, v)) {
                many++;
                first = first < 0 ? digits : first;
            }
        }
        return new int[] {many, first};
    }

    private static boolean still(int[] hours, int n, int h, int c, int v) {
        for (int who = 4 - n; who < 4; who++) {
            for (int to = 0; to < h; to++) {
                int[] other = hours.clone();
                other[who] = to;
                long[] now = gets(hours, who, n, h, c, v);
                long[] then = gets(other, who, n, h, c, v);
                if (then[0] * now[1] > now[0] * then[1]) {
                    return false;
                }
            }
        }
        return true;
    }

    private static long[] gets(int[] hours, int who, int n, int h, int c, int v) {
        int first = 9;
        int with = 0;
        for (int i = 4 - n; i < 4; i++) {
            with = hours[i] < first ? 1 : hours[i] == first ? with + 1 : with;
            first = Math.min(first, hours[i]);
        }
        long pays = (long) c * (h - 1 - hours[who]);
        return hours[who] == first ? new long[] {v - pays * with, with} : new long[] {-pays, 1};
    }

    /** "how many; the first (hours from 0 on as digits to the base 10, the first one's the highest)", NONE without. */
    private static void rowsAsDigits() {
        int none = 0;
        int several = 0;
        FlickedCrates x = new FlickedCrates();
        for (int c = 0; c <= 99; c += 3) {
            for (int v = 1; v <= 200; v += 13) {
                int many = x.rests(3, 3, c, v, 0);
                int first = x.rests(3, 3, c, v, 1);
                int[] due = counted(3, 3, c, v);
                Checks.due("rests of 3 by 3, " + c + ", " + v, many, due[0]);
                Checks.due("the first of 3 by 3, " + c + ", " + v, first, due[1]);
                none += many == 0 ? 1 : 0;
                several += many > 1 ? 1 : 0;
                Checks.due("NONE just without", first == -1 ? 1 : 0, many == 0 ? 1 : 0);
            }
        }
        Checks.due("some have none", none > 0 ? 1 : 0, 1);
        Checks.due("some have several", several > 0 ? 1 : 0, 1);
    }
}
