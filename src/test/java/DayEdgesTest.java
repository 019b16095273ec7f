/**
 * Promises 14 to 17 and 23, sentence by sentence: a day and its draws, coming to a crate, rounds. Each sentence of the
 * document that names a bound stands over the test of it.
 */
public final class DayEdgesTest {
    private static final int[] SEEDS = {0, 1, 2, 5, 7, 99, -1, -2, 65535, 65536, 1 << 30, Integer.MAX_VALUE, Integer.MIN_VALUE,
        Integer.MIN_VALUE + 1, 0x7FFF0000, 0x80008000, 1103515245, -1103515245, 12345, -12345};

    public static void main(String[] args) {
        doneByThisSecond();
        withoutANextOne();
        behindOneAnother();
        otherNotDone();
        nextOneNotHis();
        changingPlaces();
        whoComesFirst();
        notComeYet();
        whoseTurnComesLater();
        waitsAndChangesInOneSecond();
        sixInARow();
        bothWaysWithOneCrate();
        lastSecond();
        lastOneGone();
        withoutLookersOrCrates();
        seenByADraw();
        goodOrMore();
        priceOrLess();
        moneyOrLess();
        boughtOneByOne();
        asTheRowIsThen();
        putBackAtTheFirst();
        putBackAtTheLast();
        putBackBetween();
        putBackOneByOne();
        drawnThoughAllIsOne();
        roundedUp();
        forEachHeldUp();
        moneyEachTime();
        soldInIt();
        soldIsNotSeenAgain();
        farOffThen();
        roundWays();
        roundOfNone();
        Checks.end();
    }

    /** "the SEED (32 bits) becomes itself times 1,103,515,245, and 12,345 (it wraps); what its bits 16 to 30 leave by n". */
    private static final class Draws {
        private long seed;

        Draws(int seed) {
            this.seed = seed & 0xFFFFFFFFL;
        }

        int of(int n) {
            seed = (seed * 1103515245L + 12345L) % (1L << 32);
            return (int) (seed / 65536 % 32768 % n);
        }
    }

    private static void gone(FlickedCrates x, int... seconds) {
        int last = 0;
        for (int k = 0; k < seconds.length; k++) {
            Checks.due("buys(" + k + ", 3, 3)", x.buys(k, 3, 3), seconds[k]);
            last = last < 0 || seconds[k] < 0 ? -1 : Math.max(last, seconds[k]);
        }
        Checks.due("would(3, 5)", x.would(3, 5), last);
    }

    private static void waited(FlickedCrates x, int... seconds) {
        int all = 0;
        for (int k = 0; k < seconds.length; k++) {
            Checks.due("buys(" + k + ", 3, 2)", x.buys(k, 3, 2), seconds[k]);
            all += seconds[k];
        }
        Checks.due("would(3, 2)", x.would(3, 2), all);
    }

    /** Crates with so many sleeves each, of good 0; lookers below want 9, so that nothing is held up. */
    private static String rows(int... sizes) {
        StringBuilder text = new StringBuilder();
        for (int c = 0; c < sizes.length; c++) {
            text.append("crate ").append(c).append(';');
        }
        for (int c = 0; c < sizes.length; c++) {
            text.append(("sleeve " + c + " 9 0;").repeat(sizes[c]));
        }
        return text.toString();
    }

    private static String looker(int t, int f) {
        return "looker " + t + " " + f + " 9 0 0;";
    }

    /** "one who is done at his CRATE (by this SECOND)": in that second he goes, not in one ahead of it or behind it. */
    private static void doneByThisSecond() {
        FlickedCrates x = Checks.of(rows(3, 4, 1) + looker(10, 1));
        gone(x, 10 + 3 + 4 + 1);
        waited(x, 0);
        gone(Checks.of(rows(3, 4, 1) + looker(10, 1) + "left 0;"), 10 + 3 + 4 + 1);
    }

    /** "without a next one in his direction he is GONE": at once, and his crate is empty for those behind. */
    private static void withoutANextOne() {
        FlickedCrates x = Checks.of(rows(2) + looker(0, 1) + looker(0, 1));
        gone(x, 2, 4);
        waited(x, 0, 2);
        FlickedCrates y = Checks.of(rows(2) + looker(1, 1) + looker(0, 1));
        // The one behind has his turn ahead of the other one's: he comes a second later.
        gone(y, 5, 2);
        waited(y, 2, 0);
    }

    /** "if nobody stands at the next one, he goes there": also if one stood there in this second, and not if one still does. */
    private static void behindOneAnother() {
        FlickedCrates x = Checks.of(rows(1, 1) + looker(0, 1) + looker(0, 1));
        gone(x, 2, 3);
        waited(x, 0, 1);
        FlickedCrates y = Checks.of(rows(1, 1) + looker(1, 1) + looker(0, 1));
        gone(y, 4, 2);
        waited(y, 1, 0);
        FlickedCrates left = Checks.of(rows(1, 1) + looker(0, 1) + looker(0, 1) + "left 0;left 1;");
        gone(left, 2, 3);
        waited(left, 0, 1);
    }

    /** "if one stands there who is done, too": while he is not, one waits. */
    private static void otherNotDone() {
        FlickedCrates x = Checks.of(rows(1, 3) + looker(0, 1) + looker(0, 1) + "left 1;");
        waited(x, 2, 0);
        gone(x, 6, 4);
        FlickedCrates y = Checks.of(rows(1, 3) + looker(0, 1) + looker(0, 1) + "left 0;");
        waited(y, 0, 2);
        gone(y, 4, 6);
    }

    /** "and whose next one is his": one who is done but goes the same way changes no places. */
    private static void nextOneNotHis() {
        FlickedCrates x = Checks.of(rows(1, 3) + looker(2, 1) + looker(0, 1));
        waited(x, 2, 0);
        gone(x, 8, 4);
        // In the middle of three, with a next one ahead of both.
        FlickedCrates y = Checks.of(rows(1, 3, 1) + looker(2, 1) + looker(0, 1));
        waited(y, 2, 0);
        gone(y, 9, 5);
    }

    /** "they change places": both in one second, and neither waits in it; he who waited till then goes on in the next ones. */
    private static void changingPlaces() {
        FlickedCrates x = Checks.of(rows(2, 2) + looker(0, 1) + looker(0, 1) + "left 1;");
        waited(x, 0, 0);
        gone(x, 4, 4);
        // In the middle of four, and both go on there.
        FlickedCrates y = Checks.of(rows(2, 2, 2, 2) + looker(0, 1) + looker(0, 1) + "left 0;");
        waited(y, 0, 0);
        gone(y, 8, 8);
        // Three crates: the one in the middle is free for the one whose turn it is; then they change.
        FlickedCrates z = Checks.of(rows(2, 2, 2) + looker(0, 1) + looker(0, 1) + "left 1;");
        waited(z, 0, 2);
        gone(z, 6, 8);
    }

    /** "first he whose turn it is comes to his new one, then the other one to his": what is put back lies there then. */
    private static void whoComesFirst() {
        String text = "crate 0;crate 5;sleeve 0 99 5;lies 0 1;miss 1 0;stop 0;";
        // 0 holds it up in crate 1 and puts it into its own; 1, who changes with him, finds it there: a second.
        FlickedCrates x = Checks.of(text + "looker 0 1 0 0 0;looker 0 1 9 0 0;left 1;");
        gone(x, 2, 2);
        waited(x, 0, 0);
        Checks.due("it is in its own", x.then(0, 3), 0);
        // The other way round, he whose turn it is comes to the empty crate, and has nothing to look at.
        FlickedCrates y = Checks.of(text + "looker 0 1 9 0 0;looker 0 1 0 0 0;left 0;");
        gone(y, 2, 2);
        Checks.due("it is in its own", y.then(0, 3), 0);
    }

    /** "(b) one whose T it is, or was, and who has not come yet: if nobody stands at his first CRATE, he comes there". */
    private static void notComeYet() {
        for (int t : new int[] {0, 1, 599, 600}) {
            FlickedCrates x = Checks.of(rows(5) + looker(t, 1));
            gone(x, t + 5);
            waited(x, 0);
        }
        // His T was: he waits from it on till the other one is gone.
        FlickedCrates x = Checks.of(rows(24) + looker(590, 1) + looker(600, 1));
        waited(x, 0, 14);
        gone(x, 614, 638);
        // At the first second in which the crate is empty he need not wait.
        FlickedCrates y = Checks.of(rows(24) + looker(576, 1) + looker(600, 1));
        waited(y, 0, 0);
        gone(y, 600, 624);
        // Left: his first crate is the last one.
        FlickedCrates z = Checks.of(rows(1, 5) + looker(0, 1) + looker(0, 1) + "left 1;");
        waited(z, 4, 0);
        gone(z, 10, 6);
    }

    /** Who comes in his turn to an empty crate is done at once, but his turn of this second is over. */
    private static void whoseTurnComesLater() {
        gone(Checks.of(rows(0) + looker(0, 1)), 1);
        gone(Checks.of(rows(0) + looker(600, 8)), 601);
        gone(Checks.of(rows(0, 0, 0, 0, 0, 0, 0, 0) + looker(0, 1)), 8);
        gone(Checks.of(rows(0, 0, 0, 0, 0, 0, 0, 0) + looker(0, 1) + "left 0;"), 8);
        // Who changed places in another's turn has his own one still ahead in this second.
        FlickedCrates x = Checks.of(rows(0, 0) + looker(0, 1) + looker(0, 1) + "left 1;");
        gone(x, 2, 1);
        waited(x, 0, 0);
    }

    /**
     * "WAITED: all such seconds together": 0 waits in second 3 for 1, who then changes with 2; by 2's turn, who is done at
     * once in the empty crate, 0 comes there in the same second.
     */
    private static void waitsAndChangesInOneSecond() {
        FlickedCrates x = Checks.of(rows(1, 0, 2) + looker(1, 1) + looker(0, 1) + looker(1, 1) + "left 2;");
        waited(x, 4, 1, 0);
        gone(x, 8, 5, 4);
    }

    /** "LOOKERS by number": of six who come together the k-th waits k seconds. */
    private static void sixInARow() {
        StringBuilder text = new StringBuilder(rows(0, 0, 0, 0, 0, 0, 0, 0));
        for (int k = 0; k < 6; k++) {
            text.append(looker(0, 1));
        }
        FlickedCrates x = Checks.of(text.toString());
        waited(x, 0, 1, 2, 3, 4, 5);
        gone(x, 8, 9, 10, 11, 12, 13);
        Checks.due("round: half of them may go the other way", x.round(1) < 15 ? 1 : 0, 1);
    }

    private static void bothWaysWithOneCrate() {
        FlickedCrates x = Checks.of(rows(3) + looker(0, 1) + looker(0, 1) + looker(0, 3) + "left 1;");
        waited(x, 0, 3, 6);
        gone(x, 3, 6, 7);
    }

    /** "SECOND by SECOND, 0 to 3,599". */
    private static void lastSecond() {
        // Crate of 24: each of the first four stands there 24 seconds and 30 for each of 24.
        String full = "crate 0;" + "sleeve 0 9 0;".repeat(24) + "miss 1 0;stop 30;";
        String four = "looker 0 1 0 0 0;".repeat(4);
        // Each of them takes 744 seconds; the fifth one comes at 2,976 and would need as many, unless he holds nothing up.
        FlickedCrates x = Checks.of(full + four + "looker 0 1 9 0 0;");
        gone(x, 744, 1488, 2232, 2976, 3000);
        FlickedCrates y = Checks.of(full + four + "looker 0 1 0 0 0;");
        gone(y, 744, 1488, 2232, 2976, -1);
        waited(y, 0, 744, 1488, 2232, 2976);
        // One who never comes waits in each second from his T on, and is not gone.
        FlickedCrates z = Checks.of(full + four + "looker 0 1 0 0 0;looker 600 1 0 0 0;");
        waited(z, 0, 744, 1488, 2232, 2976, 3000);
        gone(z, 744, 1488, 2232, 2976, -1, -1);
        // In second 3,599 one may still be gone; a second later there is none.
        String late = "crate 0;" + "sleeve 0 9 0;".repeat(24) + "miss 1 0;miss 2 0;miss 3 0;stop 29;";
        FlickedCrates just = Checks.of(late + "looker 11 1 0 0 0;".repeat(4) + "looker 11 2 0 0 0;");
        Checks.due("gone in the last second", just.buys(4, 3, 3), 3599);
        Checks.due("the last one", just.would(3, 5), 3599);
        FlickedCrates none = Checks.of(late + "looker 12 1 0 0 0;".repeat(4) + "looker 12 2 0 0 0;");
        Checks.due("not gone any more", none.buys(4, 3, 3), -1);
        Checks.due("not all", none.would(3, 5), -1);
        Checks.due("the fourth one is", none.buys(3, 3, 3), 12 + 4 * 720);
    }

    /** "the SECOND in which the last one is GONE (NONE: not all; 0 without LOOKERS)": the last by time, not by number. */
    private static void lastOneGone() {
        gone(Checks.of(rows(2) + looker(50, 1) + looker(3, 1)), 52, 5);
        gone(Checks.of(rows(2) + looker(3, 1) + looker(50, 1)), 5, 52);
        gone(Checks.of(rows(2) + looker(3, 1) + looker(50, 1) + looker(20, 1)), 5, 52, 22);
    }

    private static void withoutLookersOrCrates() {
        FlickedCrates[] all = {new FlickedCrates(), Checks.of(rows(3, 2)), Checks.of(rows(0))};
        for (FlickedCrates x : all) {
            for (int seed : SEEDS) {
                for (int what = 0; what < 6; what++) {
                    Checks.due("would(" + seed + ", " + what + ")", x.would(seed, what), 0);
                }
                Checks.due("day(" + seed + ")", x.day(seed), 0);
            }
            Checks.due("round(0)", x.round(0), 0);
            Checks.due("round(1)", x.round(1), 0);
        }
        Checks.row("nothing goes", all[1], 0, 0, 1, 2);
    }

    /** "each SLEEVE is SEEN, if a DRAW of 8 is not below what is missed at his PACE": 0 to 8 are missed. */
    private static void seenByADraw() {
        for (int missed = 0; missed <= 8; missed++) {
            for (int f : new int[] {1, 8}) {
                FlickedCrates x = Checks.of("crate 0;" + "sleeve 0 9 9;".repeat(5) + "looker 0 " + f + " 0 0 0;miss " + f + " "
                        + missed + ";miss 4 0;back 0 0 1 0;");
                for (int seed : SEEDS) {
                    Draws draws = new Draws(seed);
                    int seen = 0;
                    for (int s = 0; s < 5; s++) {
                        seen += draws.of(8) >= missed ? 1 : 0;
                    }
                    Checks.due("held up of 5 by " + seed + ", " + missed + " missed", x.would(seed, 3), seen);
                    Checks.due("gone by " + seed + ", " + missed + " missed", x.would(seed, 5), (f == 1 ? 5 : 1) + 5 * seen);
                }
            }
        }
        // By his own pace: what is missed at others does not count.
        FlickedCrates y = Checks.of("crate 0;sleeve 0 9 9;looker 0 3 0 0 0;miss 1 8;miss 2 8;miss 3 0;miss 4 8;");
        Checks.due("at a pace of 3", y.would(3, 3), 1);
    }

    /** "of GOOD W or more is HELD UP". */
    private static void goodOrMore() {
        for (int wants = 0; wants <= 9; wants++) {
            StringBuilder text = new StringBuilder("crate 0;");
            for (int good = 0; good <= 9; good++) {
                text.append("sleeve 0 9 ").append(good).append(';');
            }
            FlickedCrates x = Checks.of(text + "looker 0 1 " + wants + " 99 999;miss 1 0;stop 1;");
            Checks.due("held up", x.would(3, 3), 10 - wants);
            Checks.due("bought", x.buys(0, 3, 0), 10 - wants);
            Checks.due("gone", x.buys(0, 3, 3), 10 + 10 - wants);
            for (int s = 0; s < 10; s++) {
                Checks.due("then(" + s + ")", x.then(s, 3), s >= wants ? -1 : 0);
            }
        }
    }

    /** "if its price is P or less". */
    private static void priceOrLess() {
        int[][] pays = {{0, 0}, {1, 1}, {7, 2}, {8, 3}, {9, 4}, {98, 4}, {99, 5}};
        for (int[] p : pays) {
            FlickedCrates x = Checks.of("crate 0;sleeve 0 1 0;sleeve 0 7 0;sleeve 0 8 0;sleeve 0 9 0;sleeve 0 99 0;looker 0 1 0 "
                    + p[0] + " 999;miss 1 0;");
            Checks.due("bought by " + p[0], x.would(3, 0), p[1]);
            Checks.due("held up by " + p[0], x.would(3, 3), 5);
            int[] prices = {1, 7, 8, 9, 99};
            int cost = 0;
            for (int i = 0; i < 5; i++) {
                cost += prices[i] <= p[0] ? prices[i] : 0;
                Checks.due("then(" + i + ") by " + p[0], x.then(i, 3), prices[i] <= p[0] ? -1 : 0);
            }
            Checks.due("for so much", x.would(3, 1), cost);
            Checks.due("for so much", x.buys(0, 3, 1), cost);
        }
    }

    /** "and no more than what he has". */
    private static void moneyOrLess() {
        for (int has : new int[] {0, 1, 41, 42, 43, 83, 84, 85, 999}) {
            FlickedCrates x = Checks.of("crate 0;sleeve 0 42 0;sleeve 0 42 0;looker 0 1 0 99 " + has + ";miss 1 0;");
            int many = Math.min(2, has / 42);
            Checks.due("bought with " + has, x.buys(0, 3, 0), many);
            Checks.due("for so much with " + has, x.buys(0, 3, 1), 42 * many);
            Checks.due("held up", x.would(3, 3), 2);
        }
        FlickedCrates most = Checks.of("crate 0;" + "sleeve 0 99 0;".repeat(24) + "looker 0 1 0 99 999;miss 1 0;");
        Checks.due("999 buy ten of 99", most.day(3), 10);
        Checks.row("the others are put back", most, 0, 10, 11, 12, 13, 14, 15, 16, 17, 18, 19, 20, 21, 22, 23);
    }

    /** "he has so much less": from one to the next, by the row; one too dear is left, a cheaper one behind it bought. */
    private static void boughtOneByOne() {
        FlickedCrates x = Checks.of("crate 0;crate 1;sleeve 0 6 0;sleeve 0 5 0;sleeve 0 4 0;sleeve 1 1 0;sleeve 1 1 0;"
                + "looker 0 1 0 9 11;miss 1 0;stop 0;");
        Checks.due("bought", x.day(3), 2);
        Checks.due("0", x.sleeve(0, 4), -1);
        Checks.due("1: just all that he has", x.sleeve(1, 4), -1);
        Checks.row("too dear", x, 0, 2);
        Checks.row("nothing left", x, 1, 3, 4);
        FlickedCrates y = Checks.of("crate 0;crate 1;sleeve 0 6 0;sleeve 0 5 0;sleeve 0 4 0;sleeve 1 1 0;sleeve 1 1 0;"
                + "looker 0 1 0 9 10;miss 1 0;stop 0;");
        Checks.due("bought", y.day(3), 2);
        Checks.row("too dear", y, 0, 1);
        // What two lookers have is their own.
        FlickedCrates two = Checks.of("crate 0;sleeve 0 6 0;sleeve 0 5 0;looker 0 1 0 9 6;looker 50 1 0 9 5;miss 1 0;");
        Checks.due("the first one", two.buys(0, 3, 1), 6);
        Checks.due("the second one", two.buys(1, 3, 1), 5);
        Checks.due("together", two.would(3, 1), 11);
        Checks.due("sold", two.would(3, 0), 2);
    }

    /** "he goes through its row, as it is then": in its row, with what was put into it ahead, and not again in this crate. */
    private static void asTheRowIsThen() {
        String text = "crate 0;crate 5;sleeve 5 9 5;sleeve 5 9 5;sleeve 5 9 5;lies 0 0;looker 0 1 5 9 27;miss 1 0;stop 0;";
        FlickedCrates x = Checks.of(text);
        Checks.due("all three are bought", x.would(3, 0), 3);
        // With money for one alone it is 0, which lies in crate 0.
        FlickedCrates one = Checks.of(text.replace("9 27", "9 9"));
        Checks.due("0 is bought", one.then(0, 3), -1);
        Checks.due("1 is not", one.then(1, 3), 1);
        // Put back into its own: he sees it a second time, behind the others, and it counts again.
        FlickedCrates again = Checks.of(text.replace("9 27", "8 27"));
        Checks.due("held up", again.would(3, 3), 4);
        Checks.due("three lie in crate 1 then", again.buys(0, 3, 3), 1 + 3);
        again.day(3);
        Checks.row("by how they were put back", again, 1, 1, 2, 0);
        // The row as lay() left it: with money for one the first in it is bought.
        FlickedCrates laid = Checks.of("crate 0;sleeve 0 5 0;sleeve 0 5 0;sleeve 0 5 0;looker 0 1 0 9 5;miss 1 0;");
        laid.lay(0, 0);
        laid.day(3);
        Checks.row("1 is bought", laid, 0, 2, 0);
    }

    private static final int[][] WEIGHTS = {{1, 0, 0, 0}, {0, 1, 0, 0}, {0, 0, 1, 0}, {0, 0, 0, 1}, {1, 1, 1, 1}, {9, 9, 9, 9},
        {1, 2, 3, 4}, {4, 3, 2, 1}, {0, 5, 0, 2}, {3, 0, 7, 0}, {0, 1, 9, 0}, {9, 0, 0, 9}};

    private static int drawn(Draws draws, int[] back, int own, int here, int crates) {
        int draw = draws.of(back[0] + back[1] + back[2] + back[3]);
        if (draw < back[0]) {
            return own;
        }
        if (draw < back[0] + back[1]) {
            int beside = here + (draws.of(2) == 0 ? -1 : 1);
            return beside < 0 || beside >= crates ? here : beside;
        }
        return draw < back[0] + back[1] + back[2] ? here : draws.of(crates);
    }

    private static String one(int crates, int own, int here, int[] back, String ways) {
        return rows(new int[crates]) + "sleeve " + own + " 9 5;lies 0 " + here + ";looker 0 1 0 0 0;miss 1 0;" + ways + "back " + back[0]
                + " " + back[1] + " " + back[2] + " " + back[3] + ";";
    }

    /** "0 the one ahead .. if there is none such, in this one": he who goes to the left holds it up in the first one last. */
    private static void putBackAtTheFirst() {
        for (int crates = 1; crates <= 8; crates++) {
            for (int[] back : WEIGHTS) {
                int own = crates / 2;
                FlickedCrates x = Checks.of(one(crates, own, 0, back, "left 0;"));
                for (int seed : SEEDS) {
                    Draws draws = new Draws(seed);
                    draws.of(8);
                    Checks.due("put back in the first of " + crates + " by " + seed, x.then(0, seed), drawn(draws, back, own, 0, crates));
                }
            }
        }
    }

    /** "1 the one behind; if there is none such, in this one". */
    private static void putBackAtTheLast() {
        for (int crates = 1; crates <= 8; crates++) {
            for (int[] back : WEIGHTS) {
                int own = crates / 3;
                FlickedCrates x = Checks.of(one(crates, own, crates - 1, back, ""));
                for (int seed : SEEDS) {
                    Draws draws = new Draws(seed);
                    draws.of(8);
                    Checks.due("put back in the last of " + crates + " by " + seed, x.then(0, seed),
                            drawn(draws, back, own, crates - 1, crates));
                }
            }
        }
    }

    /** Between: he goes on to the right, and holds it up again if it comes to lie there; what he left behind stays. */
    private static void putBackBetween() {
        for (int[] back : WEIGHTS) {
            FlickedCrates x = Checks.of(one(8, 2, 4, back, ""));
            for (int seed : SEEDS) {
                Draws draws = new Draws(seed);
                int at = 4;
                int held = 0;
                for (int next = 4; next < 8; next++) {
                    if (next == at) {
                        draws.of(8);
                        held++;
                        at = drawn(draws, back, 2, next, 8);
                    }
                }
                Checks.due("then by " + seed, x.then(0, seed), at);
                Checks.due("held up by " + seed, x.would(seed, 3), held);
                Checks.due("off by " + seed, x.would(seed, 4), Math.abs(at - 2));
            }
        }
    }

    /** "behind all of the row, those held up are put back, one by one": draws for all that are seen come first. */
    private static void putBackOneByOne() {
        for (int seed : SEEDS) {
            FlickedCrates x = Checks.of("crate 0;crate 1;crate 2;sleeve 2 50 5;sleeve 2 3 5;sleeve 2 60 5;sleeve 2 9 1;sleeve 2 70 5;"
                    + "looker 0 1 5 10 10;miss 1 0;back 1 1 1 1;");
            Draws draws = new Draws(seed);
            for (int s = 0; s < 5; s++) {
                draws.of(8);
            }
            int[] back = {1, 1, 1, 1};
            int[] where = {2, -1, 2, 2, 2};
            for (int s : new int[] {0, 2, 4}) {
                where[s] = drawn(draws, back, 2, 2, 3);
            }
            x.day(seed);
            for (int s = 0; s < 5; s++) {
                Checks.due("where " + s + " lies by " + seed, x.sleeve(s, 4), where[s]);
            }
            // What was not held up lies ahead of what was put back.
            Checks.due("first in the row by " + seed, x.row(2, 0), 3);
            int i = 1;
            for (int s : new int[] {0, 2, 4}) {
                if (where[s] == 2) {
                    Checks.due("then in the row by " + seed, x.row(2, i), s);
                    i++;
                }
            }
        }
    }

    /** Each DRAW is taken, also where one answer alone is possible: in a single crate, by which the next looker's draws tell. */
    private static void drawnThoughAllIsOne() {
        for (int missed = 0; missed <= 8; missed += 2) {
            for (int[] back : WEIGHTS) {
                FlickedCrates x = Checks.of("crate 0;" + "sleeve 0 9 9;".repeat(4) + "looker 0 4 0 0 0;looker 300 5 0 0 0;miss 4 " + missed
                        + ";miss 5 3;back " + back[0] + " " + back[1] + " " + back[2] + " " + back[3] + ";");
                for (int seed : SEEDS) {
                    Draws draws = new Draws(seed);
                    int held = passing(draws, missed, back) + passing(draws, 3, back);
                    Checks.due("held up by two, " + missed + " missed, by " + seed, x.would(seed, 3), held);
                }
            }
        }
    }

    private static int passing(Draws draws, int missed, int[] back) {
        int held = 0;
        for (int s = 0; s < 4; s++) {
            held += draws.of(8) >= missed ? 1 : 0;
        }
        for (int i = 0; i < held; i++) {
            Checks.due("in the only crate", drawn(draws, back, 0, 0, 1), 0);
        }
        return held;
    }

    /** "as many seconds later as SLEEVES were in the row by PACE, rounded up". */
    private static void roundedUp() {
        for (int n : new int[] {1, 2, 7, 8, 9, 15, 16, 17, 23, 24}) {
            for (int f = 1; f <= 8; f++) {
                int seconds = n / f + (n % f == 0 ? 0 : 1);
                gone(Checks.of(rows(n) + looker(0, f)), seconds);
                // "as SLEEVES were in the row", also of those that are bought.
                FlickedCrates x = Checks.of(rows(n) + "looker 5 " + f + " 0 99 999;miss " + f + " 0;stop 0;");
                gone(x, 5 + seconds);
                Checks.due("all are bought", x.would(3, 0), n);
            }
        }
    }

    /** "and H for each that was HELD UP": 0 to 30, of those bought and of those put back. */
    private static void forEachHeldUp() {
        for (int stop : new int[] {0, 1, 5, 29, 30}) {
            FlickedCrates x = Checks.of("crate 0;sleeve 0 5 5;sleeve 0 9 5;sleeve 0 5 4;sleeve 0 5 5;looker 0 3 5 5 99;miss 3 0;stop "
                    + stop + ";");
            gone(x, 2 + 3 * stop);
            Checks.due("held up", x.would(3, 3), 3);
            Checks.due("bought", x.would(3, 0), 2);
        }
        gone(Checks.of("crate 0;sleeve 0 5 5;looker 0 1 5 5 99;miss 1 0;"), 1 + 5);
    }

    /** "(LOOKERS have M each time.)" */
    private static void moneyEachTime() {
        FlickedCrates x = Checks.of("crate 0;sleeve 0 5 0;sleeve 0 5 0;sleeve 0 5 0;looker 0 1 0 9 5;miss 1 0;");
        for (int left = 2; left >= 0; left--) {
            Checks.due("would", x.would(3, 0), 1);
            Checks.due("day", x.day(3), 1);
            Checks.due("sold by now", x.count(2), 3 - left);
            Checks.due("has M", x.looker(0, 4), 5);
        }
        Checks.due("nothing is left", x.day(3), 0);
        Checks.due("sold", x.count(2), 3);
    }

    /** "how many SLEEVES are SOLD in it": in this day. */
    private static void soldInIt() {
        FlickedCrates x = Checks.of("crate 0;sleeve 0 1 0;sleeve 0 2 0;sleeve 0 3 0;looker 0 1 0 3 3;looker 90 1 0 3 2;miss 1 0;");
        Checks.due("0 buys 0 and 1, 1 buys none", x.day(3), 2);
        Checks.due("0 buys 2", x.day(3), 1);
        Checks.due("none", x.day(3), 0);
        Checks.due("all", x.count(2), 3);
    }

    /** What is sold lies nowhere: it is not in the row by which seconds count, nor held up again. */
    private static void soldIsNotSeenAgain() {
        FlickedCrates x = Checks.of("crate 0;sleeve 0 1 0;sleeve 0 1 0;looker 0 1 0 9 9;looker 90 1 0 9 9;miss 1 0;stop 0;");
        gone(x, 2, 91);
        Checks.due("held up once", x.would(3, 3), 2);
        x.day(3);
        Checks.row("nothing lies there", x, 0);
        gone(x, 1, 91);
    }

    /** "how far off their OWN CRATES all lie then": of those not sold, whether held up or not. */
    private static void farOffThen() {
        FlickedCrates x = Checks.of("crate 0;crate 1;crate 2;crate 3;sleeve 0 1 0;sleeve 3 1 0;sleeve 0 1 9;sleeve 2 50 9;lies 0 3;lies 1 1;"
                + "lies 2 3;lies 3 0;looker 0 1 9 9 9;miss 1 0;");
        Checks.due("ahead", x.off(), 3 + 2 + 3 + 2);
        Checks.due("2 is sold, 3 in its own", x.would(3, 4), 3 + 2);
        Checks.due("no day went by", x.off(), 3 + 2 + 3 + 2);
        x.day(3);
        Checks.due("then", x.off(), 3 + 2);
    }

    private static void round(String text, int bits, int waited) {
        FlickedCrates x = Checks.of(text);
        Checks.due("round(0) of " + text, x.round(0), bits);
        Checks.due("round(1) of " + text, x.round(1), waited);
    }

    /** "the one with the fewest WAITED seconds in a DAY in which nothing is SEEN, of these the least". */
    private static void roundWays() {
        String rows = rows(2, 2);
        round(rows + looker(0, 1), 0, 0);
        round(rows + looker(0, 1) + looker(0, 1), 1, 0);
        round(rows + looker(100, 1) + looker(0, 1) + looker(0, 1), 2, 0);
        round(rows + looker(100, 1) + looker(200, 1) + looker(0, 1) + looker(0, 1), 4, 0);
        StringBuilder six = new StringBuilder(rows);
        for (int k = 0; k < 4; k++) {
            six.append(looker(100 + 100 * k, 1));
        }
        round(six + looker(0, 1) + looker(0, 1), 16, 0);
        // 4 and 5 together, and 0 with 3: the least of all four ways.
        round(rows + looker(50, 1) + looker(100, 1) + looker(200, 1) + looker(50, 1) + looker(0, 1) + looker(0, 1), 17, 0);
        round(rows(1, 5) + looker(0, 1) + looker(7, 1), 0, 0);
        // Both to the right: a second is waited; the early one to the left: two; the late one: they change places at 3.
        round(rows(3, 1) + looker(0, 1) + looker(2, 1), 2, 0);
        round(rows(3, 1) + looker(2, 1) + looker(0, 1), 1, 0);
        // With one crate both ways are alike.
        round(rows(3) + looker(0, 1) + looker(0, 1), 0, 3);
        // What is told of left does not count.
        round(rows + looker(0, 1) + looker(0, 1) + "left 0;left 1;", 1, 0);
        // Nor what would be held up, bought or put back in a day.
        round("crate 0;crate 1;sleeve 0 1 9;sleeve 0 1 9;sleeve 1 1 9;sleeve 1 1 9;stop 30;miss 1 0;looker 0 1 0 99 999;"
                + "looker 2 1 0 99 999;", 0, 0);
    }

    /** It asks only: what lies where, the lookers' ways and the next day stay. */
    private static void roundOfNone() {
        FlickedCrates x = Checks.of("crate 0;crate 1;sleeve 0 1 9;sleeve 1 1 9;looker 0 1 0 9 9;looker 0 1 0 9 9;left 1;miss 1 0;");
        int before = x.would(3, 5);
        x.round(0);
        x.round(1);
        Checks.due("0 goes to the right", x.looker(0, 5), 0);
        Checks.due("1 goes to the left", x.looker(1, 5), 1);
        Checks.due("none is sold", x.count(2), 0);
        Checks.row("row", x, 0, 0);
        Checks.due("the day", x.would(3, 5), before);
        // By what lies there now.
        FlickedCrates y = Checks.of(rows(2, 0) + looker(0, 1) + looker(1, 1));
        // The late one to the left: when 0 is done in crate 0 they change places.
        Checks.due("nobody waits", y.round(1), 0);
        Checks.due("the late one to the left", y.round(0), 2);
        y.lay(0, 1);
        y.lay(1, 1);
        // Now 0 must go to the left: else 1 waits for him at crate 1.
        Checks.due("nobody waits", y.round(1), 0);
        Checks.due("the early one to the left", y.round(0), 1);
    }
}
