/** Promises 22 to 27: pace, round, basket, sort, off, often. */
public final class BestTest {
    public static void main(String[] args) {
        pace();
        round();
        basket();
        sortAndOff();
        often();
        Checks.end();
    }

    private static void pace() {
        // Of 4 (4 times 5) and 5 (5 times 4) the least.
        Checks.due("new", new FlickedCrates().pace(), 4);
        Checks.due("none missed at 8", Checks.of("crate 0;miss 8 0;").pace(), 8);
        Checks.due("more missed at 4", Checks.of("crate 0;miss 4 4;").pace(), 5);
        StringBuilder all = new StringBuilder("crate 0;");
        for (int f = 1; f <= 8; f++) {
            all.append("miss ").append(f).append(" 8;");
        }
        Checks.due("all missed", Checks.of(all.toString()).pace(), 1);
        Checks.due("all but 3 missed", Checks.of(all + "miss 3 7;").pace(), 3);
    }

    private static void round(FlickedCrates x, int bits, int waited) {
        Checks.due("round(0)", x.round(0), bits);
        Checks.due("round(1)", x.round(1), waited);
    }

    private static void round() {
        String two = "crate 0;crate 5;sleeve 0 1 0;sleeve 0 1 0;sleeve 7 1 0;sleeve 7 1 0;";
        // Both from the first one: one waits 2 seconds. From both ends they change places.
        round(Checks.of(two + "looker 0 1 0 0 0;looker 0 1 0 0 0;"), 1, 0);
        round(Checks.of(two + "looker 0 1 0 0 0;"), 0, 0);
        // What is told of left does not count, nor what would be seen.
        round(Checks.of(two + "looker 0 1 0 0 0;left 0;miss 1 0;"), 0, 0);
        // A second is waited each way; with 1 and 3 in the crates two are if both go to the right.
        FlickedCrates x = Checks.of(two + "looker 0 1 0 0 0;looker 1 1 0 0 0;");
        round(x, 0, 1);
        x.lay(0, 1);
        round(x, 1, 1);
        FlickedCrates y = new FlickedCrates();
        round(y, 0, 0);
        Checks.notFit("round(2)", y, () -> y.round(2));
        Checks.notFit("round(-1)", y, () -> y.round(-1));
    }

    private static void basket(FlickedCrates x, int money, int good, int price, int bits) {
        Checks.due("basket(" + money + ", 0)", x.basket(money, 0), good);
        Checks.due("basket(" + money + ", 1)", x.basket(money, 1), price);
        Checks.due("basket(" + money + ", 2)", x.basket(money, 2), bits);
    }

    private static void basket() {
        FlickedCrates x = Checks.of("crate 0;sleeve 0 7 5;sleeve 0 4 9;sleeve 0 9 2;sleeve 0 2 6;sleeve 0 1 0;");
        basket(x, 0, 0, 0, 0);
        basket(x, 1, 0, 0, 0);
        basket(x, 2, 6, 2, 8);
        basket(x, 5, 9, 4, 2);
        basket(x, 6, 15, 6, 10);
        basket(x, 13, 20, 13, 11);
        basket(x, 999, 22, 22, 15);
        // Of alike ones the least price, of these the least bits.
        FlickedCrates alike = Checks.of("crate 0;sleeve 0 3 4;sleeve 0 1 2;sleeve 0 1 2;sleeve 0 1 2;");
        basket(alike, 2, 4, 2, 6);
        basket(alike, 3, 6, 3, 14);
        FlickedCrates bits = Checks.of("crate 0;sleeve 0 2 3;sleeve 0 1 1;sleeve 0 1 2;sleeve 0 2 3;sleeve 0 2 3;");
        basket(bits, 2, 3, 2, 1);
        basket(bits, 4, 6, 4, 7);
        // 24 of 99 are more than 999.
        StringBuilder most = new StringBuilder("crate 0;");
        for (int s = 0; s < 24; s++) {
            most.append("sleeve 0 99 9;");
        }
        basket(Checks.of(most.toString()), 999, 90, 990, 1023);
        most.append("lies 0 0;");
        String just = most.toString().replaceFirst("99 9", "9 1");
        basket(Checks.of(just), 999, 91, 999, 2047);
        basket(Checks.of(just), 998, 90, 990, 2046);
        basket(new FlickedCrates(), 999, 0, 0, 0);
        FlickedCrates sold = Checks.of("crate 0;sleeve 0 7 5;sleeve 0 4 9;looker 0 1 9 9 9;miss 1 0;");
        sold.day(1);
        basket(sold, 20, 5, 7, 1);
        Checks.notFit("basket(-1, 0)", x, () -> x.basket(-1, 0));
        Checks.notFit("basket(1000, 0)", x, () -> x.basket(1000, 0));
        Checks.notFit("basket(0, 3)", x, () -> x.basket(0, 3));
        Checks.notFit("basket(0, -1)", x, () -> x.basket(0, -1));
    }

    private static void sortAndOff() {
        FlickedCrates x = Checks.of("crate 0;crate 5;crate 10;sleeve 0 1 0;sleeve 12 1 0;sleeve 0 1 0;sleeve 12 1 0;sleeve 12 1 9;"
                + "sleeve 12 1 9;lies 2 2;lies 1 0;lies 3 1;lies 5 0;looker 0 1 9 9 1;left 0;miss 1 0;");
        Checks.due("off", x.off(), 2 + 2 + 1 + 2);
        x.lay(0, 0);
        x.lay(3, 0);
        Checks.due("off", x.off(), 2 + 2 + 2 + 2);
        // 4 is sold in the last one, 5 put back into it when the money is gone.
        Checks.due("sold", x.day(3), 1);
        Checks.due("sold ones are off by none", x.off(), 2 + 2 + 2);
        x.lay(5, 0);
        Checks.due("went", x.sort(), 4);
        Checks.row("sorted", x, 0, 0, 2);
        Checks.row("sorted", x, 1);
        Checks.row("sorted", x, 2, 1, 3, 5);
        Checks.due("off", x.off(), 0);
        Checks.due("went again", x.sort(), 0);
        Checks.row("not laid anew", x, 2, 1, 3, 5);
        Checks.due("new", new FlickedCrates().sort(), 0);
    }

    private static void often(int b, int w, int d, int n, int above, int below) {
        FlickedCrates x = new FlickedCrates();
        String call = "often(" + b + ", " + w + ", " + d + ", ";
        Checks.due(call + "0)", x.often(b, w, d, 0), n);
        Checks.due(call + "1)", x.often(b, w, d, 1), above);
        Checks.due(call + "2)", x.often(b, w, d, 2), below);
    }

    private static void often() {
        often(100, 2, 3, 6, 101, 3);
        often(0, 5, 0, 1, 5, 1);
        often(9999, 0, 0, 60, 3333, 20);
        often(0, 0, 0, 1, 0, 1);
        often(0, 0, 99, 1, 0, 1);
        often(9999, 0, 99, 60, 3333, 20);
        often(9999, 99, 99, 2, 9999, 1);
        often(9999, 1, 1, 60, 3943, 20);
        // 6, 4: n 2 costs (6 + 2 + 2) by 2, n 3 (6 + 3 + 6) by 3: of these the least.
        often(6, 1, 2, 2, 5, 1);
        FlickedCrates x = new FlickedCrates();
        Checks.notFit("often(-1, 0, 0, 0)", x, () -> x.often(-1, 0, 0, 0));
        Checks.notFit("often(10000, 0, 0, 0)", x, () -> x.often(10000, 0, 0, 0));
        Checks.notFit("often(0, -1, 0, 0)", x, () -> x.often(0, -1, 0, 0));
        Checks.notFit("often(0, 100, 0, 0)", x, () -> x.often(0, 100, 0, 0));
        Checks.notFit("often(0, 0, -1, 0)", x, () -> x.often(0, 0, -1, 0));
        Checks.notFit("often(0, 0, 100, 0)", x, () -> x.often(0, 0, 100, 0));
        Checks.notFit("often(0, 0, 0, 3)", x, () -> x.often(0, 0, 0, 3));
        Checks.notFit("often(0, 0, 0, -1)", x, () -> x.often(0, 0, 0, -1));
    }
}
