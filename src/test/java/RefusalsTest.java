import java.util.NoSuchElementException;

/**
 * Every refused call of promises 3 to 32, on both sides of each bound: which exception comes, which one if several fit,
 * what is counted, and that nothing else changed.
 */
public final class RefusalsTest {
    private static final Class<? extends RuntimeException> INDEX = IndexOutOfBoundsException.class;
    private static final Class<? extends RuntimeException> SUCH = NoSuchElementException.class;
    private static final Class<? extends RuntimeException> FIT = IllegalArgumentException.class;
    private static final Class<? extends RuntimeException> SOLD = IllegalStateException.class;
    private static final int MIN = Integer.MIN_VALUE;
    private static final int MAX = Integer.MAX_VALUE;

    interface On {
        long call(FlickedCrates x);
    }

    private static State untouched;

    public static void main(String[] args) {
        untouched = State.usingUp(used());
        shopAndTold();
        crateAndRow();
        sleeveLookerMissed();
        lay();
        changeAndWander();
        days();
        odds();
        hidden();
        orderAndMean();
        best();
        often();
        movesAndRests();
        neverRefused();
        counted();
        Checks.end();
    }

    /** 3 crates, 5 sleeves (1 is sold), 2 lookers, 2 images, a fault at 13, 40 bytes on the tape. */
    private static FlickedCrates used() {
        FlickedCrates x = Checks.of("crate 0;crate 10;crate 20;sleeve 3 7 5;sleeve 12 4 9;sleeve 25 9 2;sleeve 11 2 6;"
                + "sleeve 0 50 3;lies 2 0;disc 0 1;looker 0 2 6 5 5;looker 3 1 0 0 0;left 1;miss 2 0;stop 3;back 1 2 3 4;");
        x.image();
        x.change(2, 3);
        x.wander(0, 2);
        x.image();
        Checks.due("one is sold", x.day(7), 1);
        Checks.due("it is 1", x.sleeve(1, 4), -1);
        x.lay(3, 0);
        Checks.due("a fault", Checks.shop(x, "crate 0;stop 31;"), -8);
        Checks.feed(x, "crate 0;crate 4;sleeve 9 1 0;  stop 7;  ");
        Checks.due("bytes", x.count(1), 40);
        return x;
    }

    /** The call is refused so, each time anew, and but for status() all is as it was. */
    private static void refused(Class<? extends RuntimeException> due, String what, On on) {
        FlickedCrates x = used();
        Checks.refused(what, x, due, () -> on.call(x));
        Checks.refused(what + " again", x, due, () -> on.call(x));
        State.usingUp(x).due("behind " + what, untouched);
    }

    private static void taken(String what, On on) {
        FlickedCrates x = used();
        int before = x.status(0) + x.status(1) + x.status(2) + x.status(3);
        String got = "nothing";
        try {
            on.call(x);
        } catch (RuntimeException e) {
            got = e.getClass().getName();
        }
        Checks.due(what + " threw " + got, got.equals("nothing") ? 0 : 1, 0);
        Checks.due(what + ": refusals", x.status(0) + x.status(1) + x.status(2) + x.status(3), before);
    }

    /** "n is not 0 to the TAPE's bytes (it stays)"; "another what (so below)". */
    private static void shopAndTold() {
        for (int n : new int[] {-1, 41, MIN, MAX}) {
            refused(FIT, "shop(" + n + ")", x -> x.shop(n));
        }
        for (int n : new int[] {0, 1, 39, 40}) {
            taken("shop(" + n + ")", x -> x.shop(n));
        }
        for (int what : new int[] {-1, 8, MIN, MAX}) {
            refused(FIT, "told(" + what + ")", x -> x.told(what));
        }
        for (int what = 0; what < 8; what++) {
            int w = what;
            taken("told(" + w + ")", x -> x.told(w));
        }
    }

    /** "no such CRATE (so below, ahead of others)". */
    private static void crateAndRow() {
        for (int c : new int[] {-1, 3, MIN, MAX}) {
            refused(INDEX, "crate(" + c + ", 0)", x -> x.crate(c, 0));
            refused(INDEX, "crate(" + c + ", 2)", x -> x.crate(c, 2));
            refused(INDEX, "row(" + c + ", 0)", x -> x.row(c, 0));
            refused(INDEX, "row(" + c + ", -1)", x -> x.row(c, -1));
        }
        for (int what : new int[] {-1, 2, MIN, MAX}) {
            refused(FIT, "crate(2, " + what + ")", x -> x.crate(2, what));
        }
        taken("crate(0, 0)", x -> x.crate(0, 0));
        taken("crate(2, 1)", x -> x.crate(2, 1));
        for (int i : new int[] {-1, 0, 24, MIN, MAX}) {
            taken("row(2, " + i + ")", x -> x.row(2, i));
        }
    }

    /** "no such SLEEVE, LOOKER (so below)". */
    private static void sleeveLookerMissed() {
        for (int s : new int[] {-1, 5, MIN, MAX}) {
            refused(SUCH, "sleeve(" + s + ", 0)", x -> x.sleeve(s, 0));
            refused(SUCH, "sleeve(" + s + ", 7)", x -> x.sleeve(s, 7));
        }
        for (int what : new int[] {-1, 7, MIN, MAX}) {
            refused(FIT, "sleeve(1, " + what + ")", x -> x.sleeve(1, what));
        }
        taken("sleeve(0, 0)", x -> x.sleeve(0, 0));
        taken("sleeve(4, 6)", x -> x.sleeve(4, 6));
        taken("sleeve(1, 6), sold", x -> x.sleeve(1, 6));
        for (int k : new int[] {-1, 2, MIN, MAX}) {
            refused(SUCH, "looker(" + k + ", 0)", x -> x.looker(k, 0));
            refused(SUCH, "looker(" + k + ", 6)", x -> x.looker(k, 6));
        }
        for (int what : new int[] {-1, 6, MIN, MAX}) {
            refused(FIT, "looker(0, " + what + ")", x -> x.looker(0, what));
        }
        taken("looker(0, 0)", x -> x.looker(0, 0));
        taken("looker(1, 5)", x -> x.looker(1, 5));
        for (int f : new int[] {-1, 0, 9, MIN, MAX}) {
            refused(FIT, "missed(" + f + ")", x -> x.missed(f));
        }
        taken("missed(1)", x -> x.missed(1));
        taken("missed(8)", x -> x.missed(8));
    }

    /** "it is SOLD (so below)", behind no such crate and no such sleeve. */
    private static void lay() {
        for (int c : new int[] {-1, 3, MIN, MAX}) {
            refused(INDEX, "lay(0, " + c + ")", x -> x.lay(0, c));
            refused(INDEX, "lay(5, " + c + ")", x -> x.lay(5, c));
            refused(INDEX, "lay(1, " + c + "), sold", x -> x.lay(1, c));
        }
        for (int s : new int[] {-1, 5, MIN, MAX}) {
            refused(SUCH, "lay(" + s + ", 0)", x -> x.lay(s, 0));
        }
        refused(SOLD, "lay(1, 0)", x -> x.lay(1, 0));
        refused(SOLD, "lay(1, 2)", x -> x.lay(1, 2));
        taken("lay(0, 0)", x -> x.lay(0, 0));
        taken("lay(4, 2)", x -> x.lay(4, 2));
    }

    /** "they are one", "no such place". */
    private static void changeAndWander() {
        for (int s : new int[] {-1, 5, MIN, MAX}) {
            refused(SUCH, "change(" + s + ", 0)", x -> x.change(s, 0));
            refused(SUCH, "change(4, " + s + ")", x -> x.change(4, s));
            refused(SUCH, "change(" + s + ", " + s + ")", x -> x.change(s, s));
        }
        for (int s : new int[] {0, 1, 4}) {
            refused(FIT, "change(" + s + ", " + s + ")", x -> x.change(s, s));
        }
        taken("change(0, 4)", x -> x.change(0, 4));
        taken("change(1, 0), sold", x -> x.change(1, 0));
        taken("change(0, 1), sold", x -> x.change(0, 1));
        for (int c : new int[] {-1, 3, MIN, MAX}) {
            refused(INDEX, "wander(" + c + ", 0)", x -> x.wander(c, 0));
            refused(INDEX, "wander(" + c + ", 3)", x -> x.wander(c, 3));
            refused(FIT, "wander(0, " + c + ")", x -> x.wander(0, c));
            refused(FIT, "wander(2, " + c + ")", x -> x.wander(2, c));
        }
        taken("wander(2, 0)", x -> x.wander(2, 0));
        taken("wander(0, 2)", x -> x.wander(0, 2));
    }

    /** would(), buys() and then(): and no day goes by in those that are taken either. */
    private static void days() {
        for (int what : new int[] {-1, 6, MIN, MAX}) {
            refused(FIT, "would(7, " + what + ")", x -> x.would(7, what));
        }
        for (int k : new int[] {-1, 2, MIN, MAX}) {
            refused(SUCH, "buys(" + k + ", 7, 0)", x -> x.buys(k, 7, 0));
            refused(SUCH, "buys(" + k + ", 7, 4)", x -> x.buys(k, 7, 4));
        }
        for (int what : new int[] {-1, 4, MIN, MAX}) {
            refused(FIT, "buys(1, 7, " + what + ")", x -> x.buys(1, 7, what));
        }
        for (int s : new int[] {-1, 5, MIN, MAX}) {
            refused(SUCH, "then(" + s + ", 7)", x -> x.then(s, 7));
        }
        for (int seed : new int[] {MIN, -1, 0, MAX}) {
            taken("would(" + seed + ", 0)", x -> x.would(seed, 0));
            taken("would(" + seed + ", 5)", x -> x.would(seed, 5));
            taken("buys(0, " + seed + ", 0)", x -> x.buys(0, seed, 0));
            taken("buys(1, " + seed + ", 3)", x -> x.buys(1, seed, 3));
            taken("then(0, " + seed + ")", x -> x.then(0, seed));
            taken("then(1, " + seed + "), sold", x -> x.then(1, seed));
            taken("then(4, " + seed + ")", x -> x.then(4, seed));
            taken("day(" + seed + ")", x -> x.day(seed));
        }
        FlickedCrates asked = used();
        asked.would(3, 0);
        asked.buys(0, 4, 1);
        asked.then(0, 5);
        asked.round(0);
        State.usingUp(asked).due("no day goes by", untouched);
    }

    /** No such crate, no such sleeve, k and what, sold: in this order. */
    private static void odds() {
        for (int c : new int[] {-1, 3, MIN, MAX}) {
            refused(INDEX, "odds(" + c + ", 0, 0, 0)", x -> x.odds(c, 0, 0, 0));
            refused(INDEX, "odds(" + c + ", 5, 5, 2)", x -> x.odds(c, 5, 5, 2));
            refused(INDEX, "odds(" + c + ", 1, 0, 0), sold", x -> x.odds(c, 1, 0, 0));
        }
        for (int s : new int[] {-1, 5, MIN, MAX}) {
            refused(SUCH, "odds(0, " + s + ", 0, 0)", x -> x.odds(0, s, 0, 0));
            refused(SUCH, "odds(0, " + s + ", 5, 2)", x -> x.odds(0, s, 5, 2));
        }
        for (int k : new int[] {-1, 5, MIN, MAX}) {
            refused(FIT, "odds(0, 0, " + k + ", 0)", x -> x.odds(0, 0, k, 0));
            refused(FIT, "odds(0, 1, " + k + ", 0), sold", x -> x.odds(0, 1, k, 0));
        }
        for (int what : new int[] {-1, 2, MIN, MAX}) {
            refused(FIT, "odds(0, 0, 0, " + what + ")", x -> x.odds(0, 0, 0, what));
            refused(FIT, "odds(0, 1, 0, " + what + "), sold", x -> x.odds(0, 1, 0, what));
        }
        refused(SOLD, "odds(0, 1, 0, 0)", x -> x.odds(0, 1, 0, 0));
        refused(SOLD, "odds(2, 1, 4, 1)", x -> x.odds(2, 1, 4, 1));
        taken("odds(0, 0, 0, 0)", x -> x.odds(0, 0, 0, 0));
        taken("odds(2, 4, 4, 1)", x -> x.odds(2, 4, 4, 1));
    }

    private static void hidden() {
        for (int k : new int[] {-1, 9, MIN, MAX}) {
            refused(FIT, "hidden(" + k + ")", x -> x.hidden(k));
        }
        taken("hidden(0)", x -> x.hidden(0));
        taken("hidden(8)", x -> x.hidden(8));
    }

    /** No such sleeve, k and f and what, sold: in this order; no i is refused. */
    private static void orderAndMean() {
        for (int s : new int[] {-1, 5, MIN, MAX}) {
            refused(SUCH, "order(" + s + ", 0, 1, 0)", x -> x.order(s, 0, 1, 0));
            refused(SUCH, "order(" + s + ", 5, 9, -1)", x -> x.order(s, 5, 9, -1));
            refused(SUCH, "mean(" + s + ", 0, 1, 0)", x -> x.mean(s, 0, 1, 0));
            refused(SUCH, "mean(" + s + ", 5, 9, 2)", x -> x.mean(s, 5, 9, 2));
        }
        for (int k : new int[] {-1, 5, MIN, MAX}) {
            refused(FIT, "order(0, " + k + ", 1, 0)", x -> x.order(0, k, 1, 0));
            refused(FIT, "order(0, " + k + ", 1, 9)", x -> x.order(0, k, 1, 9));
            refused(FIT, "order(1, " + k + ", 1, 0), sold", x -> x.order(1, k, 1, 0));
            refused(FIT, "mean(0, " + k + ", 1, 0)", x -> x.mean(0, k, 1, 0));
            refused(FIT, "mean(1, " + k + ", 1, 0), sold", x -> x.mean(1, k, 1, 0));
        }
        for (int f : new int[] {-1, 0, 9, MIN, MAX}) {
            refused(FIT, "order(0, 0, " + f + ", 0)", x -> x.order(0, 0, f, 0));
            refused(FIT, "order(1, 0, " + f + ", 0), sold", x -> x.order(1, 0, f, 0));
            refused(FIT, "mean(0, 0, " + f + ", 0)", x -> x.mean(0, 0, f, 0));
            refused(FIT, "mean(1, 0, " + f + ", 0), sold", x -> x.mean(1, 0, f, 0));
        }
        for (int what : new int[] {-1, 2, MIN, MAX}) {
            refused(FIT, "mean(0, 0, 1, " + what + ")", x -> x.mean(0, 0, 1, what));
            refused(FIT, "mean(1, 0, 1, " + what + "), sold", x -> x.mean(1, 0, 1, what));
        }
        refused(SOLD, "order(1, 0, 1, 0)", x -> x.order(1, 0, 1, 0));
        refused(SOLD, "order(1, 4, 8, 2)", x -> x.order(1, 4, 8, 2));
        refused(SOLD, "order(1, 0, 1, 3), none such", x -> x.order(1, 0, 1, 3));
        refused(SOLD, "order(1, 0, 1, -1), none such", x -> x.order(1, 0, 1, -1));
        refused(SOLD, "mean(1, 0, 1, 0)", x -> x.mean(1, 0, 1, 0));
        refused(SOLD, "mean(1, 4, 8, 1)", x -> x.mean(1, 4, 8, 1));
        for (int i : new int[] {-1, 0, 2, 3, MIN, MAX}) {
            taken("order(0, 0, 1, " + i + ")", x -> x.order(0, 0, 1, i));
            taken("order(4, 4, 8, " + i + ")", x -> x.order(4, 4, 8, i));
        }
        taken("mean(0, 0, 1, 0)", x -> x.mean(0, 0, 1, 0));
        taken("mean(4, 4, 8, 1)", x -> x.mean(4, 4, 8, 1));
    }

    private static void best() {
        for (int what : new int[] {-1, 2, MIN, MAX}) {
            refused(FIT, "round(" + what + ")", x -> x.round(what));
        }
        taken("round(0)", x -> x.round(0));
        taken("round(1)", x -> x.round(1));
        for (int money : new int[] {-1, 1000, MIN, MAX}) {
            refused(FIT, "basket(" + money + ", 0)", x -> x.basket(money, 0));
        }
        for (int what : new int[] {-1, 3, MIN, MAX}) {
            refused(FIT, "basket(0, " + what + ")", x -> x.basket(0, what));
        }
        taken("basket(0, 0)", x -> x.basket(0, 0));
        taken("basket(999, 2)", x -> x.basket(999, 2));
    }

    private static void often() {
        for (int b : new int[] {-1, 10000, MIN, MAX}) {
            refused(FIT, "often(" + b + ", 0, 0, 0)", x -> x.often(b, 0, 0, 0));
        }
        for (int n : new int[] {-1, 100, MIN, MAX}) {
            refused(FIT, "often(0, " + n + ", 0, 0)", x -> x.often(0, n, 0, 0));
            refused(FIT, "often(0, 0, " + n + ", 0)", x -> x.often(0, 0, n, 0));
        }
        for (int what : new int[] {-1, 3, MIN, MAX}) {
            refused(FIT, "often(0, 0, 0, " + what + ")", x -> x.often(0, 0, 0, what));
        }
        taken("often(0, 0, 0, 0)", x -> x.often(0, 0, 0, 0));
        taken("often(9999, 99, 99, 2)", x -> x.often(9999, 99, 99, 2));
    }

    private static void movesAndRests() {
        for (int what : new int[] {-1, 2, MIN, MAX}) {
            refused(FIT, "moves(" + what + ")", x -> x.moves(what));
            refused(FIT, "rests(2, 2, 0, 1, " + what + ")", x -> x.rests(2, 2, 0, 1, what));
        }
        taken("moves(0)", x -> x.moves(0));
        taken("moves(1)", x -> x.moves(1));
        for (int n : new int[] {-1, 0, 1, 5, MIN, MAX}) {
            refused(FIT, "rests(" + n + ", 2, 0, 1, 0)", x -> x.rests(n, 2, 0, 1, 0));
            refused(FIT, "rests(2, " + n + ", 0, 1, 0)", x -> x.rests(2, n, 0, 1, 0));
        }
        for (int c : new int[] {-1, 100, MIN, MAX}) {
            refused(FIT, "rests(2, 2, " + c + ", 1, 0)", x -> x.rests(2, 2, c, 1, 0));
        }
        for (int v : new int[] {-1, 0, 1000, MIN, MAX}) {
            refused(FIT, "rests(2, 2, 0, " + v + ", 0)", x -> x.rests(2, 2, 0, v, 0));
        }
        taken("rests(2, 2, 0, 1, 0)", x -> x.rests(2, 2, 0, 1, 0));
        taken("rests(4, 4, 99, 999, 1)", x -> x.rests(4, 4, 99, 999, 1));
    }

    /** Where the document names no exception, none comes: NONE or -1 is answered, and is no refusal. */
    private static void neverRefused() {
        for (int i : new int[] {-1, 0, 3, 24, MIN, MAX}) {
            taken("changed(" + i + ")", x -> x.changed(i));
            taken("divider(" + i + ")", x -> x.divider(i));
            taken("status(" + i + ")", x -> x.status(i));
            taken("count(" + i + ")", x -> x.count(i));
        }
        taken("images until there are 3", x -> x.image() + x.image() + x.image());
        taken("restore until there is none", x -> x.restore() + x.restore() + x.restore());
        taken("feed until there would be more than 600", x -> {
            long last = 0;
            for (int i = 0; i < 30; i++) {
                last = x.feed(MIN, MAX, -1, 0, 1);
            }
            return last;
        });
        taken("a fault", x -> Checks.shop(x, "!"));
    }

    /** Each reason has a count of its own, from 0 on. */
    private static void counted() {
        FlickedCrates x = used();
        for (int what = 0; what < 4; what++) {
            Checks.due("none refused yet: status(" + what + ")", x.status(what), 0);
        }
        On[] calls = {y -> y.row(3, 0), y -> y.then(5, 0), y -> y.told(8), y -> y.lay(1, 0)};
        int[] times = {4, 3, 2, 5};
        for (int reason = 0; reason < 4; reason++) {
            for (int i = 0; i < times[reason]; i++) {
                try {
                    calls[reason].call(x);
                    Checks.due("refused", 0, 1);
                } catch (RuntimeException e) {
                    Checks.due("exception of reason " + reason, e.getClass() == Checks.REASONS[reason] ? 1 : 0, 1);
                }
            }
        }
        for (int what = 0; what < 4; what++) {
            Checks.due("status(" + what + ")", x.status(what), times[what]);
        }
    }
}
