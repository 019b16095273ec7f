/**
 * Promises 18 to 22, sentence by sentence: odds, hidden sleeves, order and mean, the pace. Each sentence of the document
 * that names a bound stands over the test of it.
 */
public final class LookingEdgesTest {
    private static final String EIGHT = "crate 0;crate 1;crate 2;crate 3;crate 4;crate 5;crate 6;crate 7;";

    public static void main(String[] args) {
        putBackNoTimes();
        putBackOnce();
        besideAlone();
        besideTheLast();
        oneCrateAlone();
        leastTerms();
        fourTimes();
        fromWhereItLies();
        hiddenByDistance();
        hiddenByOtherWeights();
        hiddenBits();
        secondsRoundedUp();
        oddsForTheirSeconds();
        alikeOnesTheFirst();
        noneSuch();
        meanOfAll();
        meanSure();
        pace();
        Checks.end();
    }

    private static void odds(FlickedCrates x, int sleeve, int k, long... due) {
        for (int c = 0; c < due.length / 2; c++) {
            String call = "odds(" + c + ", " + sleeve + ", " + k + ", ";
            Checks.due(call + "0)", x.odds(c, sleeve, k, 0), due[2 * c]);
            Checks.due(call + "1)", x.odds(c, sleeve, k, 1), due[2 * c + 1]);
        }
    }

    /** "PUT BACK k times (0 to 4)": 0 times it is where it lies, for sure, whatever the weights. */
    private static void putBackNoTimes() {
        for (String back : new String[] {"", "back 0 9 0 0;", "back 9 9 9 9;", "back 0 0 0 1;"}) {
            FlickedCrates x = Checks.of("crate 0;crate 5;crate 9;sleeve 0 1 0;sleeve 5 1 0;lies 0 2;" + back);
            odds(x, 0, 0, 0, 1, 0, 1, 1, 1);
            odds(x, 1, 0, 0, 1, 1, 1, 0, 1);
        }
    }

    /** "by weights; beside: half each; as above": each weight alone, and all together. */
    private static void putBackOnce() {
        String text = "crate 0;crate 5;crate 9;crate 12;sleeve 12 1 0;lies 0 1;";
        odds(Checks.of(text), 0, 1, 0, 1, 0, 1, 0, 1, 1, 1);
        odds(Checks.of(text + "back 0 2 0 0;"), 0, 1, 1, 2, 0, 1, 1, 2, 0, 1);
        odds(Checks.of(text + "back 0 0 2 0;"), 0, 1, 0, 1, 1, 1, 0, 1, 0, 1);
        odds(Checks.of(text + "back 0 0 0 2;"), 0, 1, 1, 4, 1, 4, 1, 4, 1, 4);
        // 1, 2, 3, 4 of 10: any one 1 of 10; beside 1 of 10 each; here 3; its own 1.
        odds(Checks.of(text + "back 1 2 3 4;"), 0, 1, 1, 5, 2, 5, 1, 5, 1, 5);
        odds(Checks.of(text + "back 9 0 0 1;"), 0, 1, 1, 40, 1, 40, 1, 40, 37, 40);
    }

    /** From the first of eight, beside alone: "if there is none such, in this one". */
    private static void besideAlone() {
        FlickedCrates x = Checks.of(EIGHT + "sleeve 5 1 0;lies 0 0;back 0 7 0 0;");
        odds(x, 0, 1, 1, 2, 1, 2, 0, 1, 0, 1);
        odds(x, 0, 2, 1, 2, 1, 4, 1, 4, 0, 1);
        odds(x, 0, 3, 3, 8, 3, 8, 1, 8, 1, 8, 0, 1);
        odds(x, 0, 4, 3, 8, 1, 4, 1, 4, 1, 16, 1, 16, 0, 1, 0, 1, 0, 1);
    }

    private static void besideTheLast() {
        FlickedCrates x = Checks.of(EIGHT + "sleeve 2 1 0;lies 0 7;back 0 7 0 0;");
        odds(x, 0, 1, 0, 1, 0, 1, 0, 1, 0, 1, 0, 1, 0, 1, 1, 2, 1, 2);
        odds(x, 0, 4, 0, 1, 0, 1, 0, 1, 1, 16, 1, 16, 1, 4, 1, 4, 3, 8);
        // From the middle nothing stays.
        FlickedCrates y = Checks.of(EIGHT + "sleeve 4 1 0;back 0 1 0 0;");
        odds(y, 0, 4, 1, 16, 0, 1, 1, 4, 0, 1, 3, 8, 0, 1, 1, 4, 1, 16);
        odds(y, 0, 3, 0, 1, 1, 8, 0, 1, 3, 8, 0, 1, 3, 8, 0, 1, 1, 8);
    }

    private static void oneCrateAlone() {
        for (String back : new String[] {"", "back 0 1 0 0;", "back 0 0 1 0;", "back 0 0 0 1;", "back 9 8 7 6;"}) {
            FlickedCrates x = Checks.of("crate 0;sleeve 25 1 0;" + back);
            for (int k = 0; k <= 4; k++) {
                odds(x, 0, k, 1, 1);
            }
        }
    }

    /** "above (what 0), below (1), in least terms". */
    private static void leastTerms() {
        String text = "crate 0;crate 10;crate 20;sleeve 12 1 0;lies 0 0;";
        for (int w = 1; w <= 9; w++) {
            FlickedCrates x = Checks.of(text + "back " + w + " " + w + " " + w + " " + w + ";");
            odds(x, 0, 1, 11, 24, 11, 24, 1, 12);
            odds(x, 0, 2, 5, 16, 33, 64, 11, 64);
        }
        // What can't be: 0 above 1.
        FlickedCrates own = Checks.of(text + "back 9 0 0 0;");
        odds(own, 0, 1, 0, 1, 1, 1, 0, 1);
        odds(own, 0, 4, 0, 1, 1, 1, 0, 1);
    }

    /** Four times by all weights of 9 in eight crates: the greatest numbers there are, exactly. */
    private static void fourTimes() {
        FlickedCrates x = Checks.of(EIGHT + "sleeve 7 1 0;lies 0 0;back 7 9 8 9;");
        double[] odds = new double[8];
        odds[0] = 1;
        for (int times = 0; times < 4; times++) {
            double[] next = new double[8];
            for (int c = 0; c < 8; c++) {
                next[7] += odds[c] * 7 / 33;
                next[Math.max(0, c - 1)] += odds[c] * 9 / 66;
                next[Math.min(7, c + 1)] += odds[c] * 9 / 66;
                next[c] += odds[c] * 8 / 33;
                for (int any = 0; any < 8; any++) {
                    next[any] += odds[c] * 9 / 264;
                }
            }
            odds = next;
        }
        long whole = 528L * 528 * 528 * 528;
        long together = 0;
        for (int c = 0; c < 8; c++) {
            long above = x.odds(c, 0, 4, 0);
            long below = x.odds(c, 0, 4, 1);
            Checks.due("odds of crate " + c + " by 10 to the 9th", Math.round((double) above / below * 1e9), Math.round(odds[c] * 1e9));
            Checks.due("its share of the whole", whole % below, 0);
            together += above * (whole / below);
            Checks.due("least terms", java.math.BigInteger.valueOf(above).gcd(java.math.BigInteger.valueOf(below)).intValueExact(), 1);
        }
        Checks.due("together", together, whole);
    }

    /** "from where it lies": that may change. */
    private static void fromWhereItLies() {
        FlickedCrates x = Checks.of("crate 0;crate 5;crate 9;sleeve 5 1 0;back 0 1 1 0;");
        odds(x, 0, 1, 1, 4, 1, 2, 1, 4);
        x.lay(0, 0);
        odds(x, 0, 1, 3, 4, 1, 4, 0, 1);
        x.lay(0, 2);
        odds(x, 0, 1, 0, 1, 1, 4, 3, 4);
        x.sort();
        odds(x, 0, 1, 1, 4, 1, 2, 1, 4);
    }

    /** "SLEEVES that lie where they can't be, put back k times or fewer from their OWN CRATES": k is 0 to 8. */
    private static void hiddenByDistance() {
        // Each way from each crate: the sleeve is hidden by k just if it lies more than k crates off.
        for (int own = 0; own < 8; own++) {
            StringBuilder text = new StringBuilder(EIGHT);
            for (int s = 0; s < 8; s++) {
                text.append("sleeve ").append(own).append(" 1 0;lies ").append(s).append(' ').append(s).append(';');
            }
            FlickedCrates beside = Checks.of(text + "back 0 1 0 0;");
            FlickedCrates more = Checks.of(text + "back 5 1 5 0;");
            for (int k = 0; k <= 8; k++) {
                int due = 0;
                for (int s = 0; s < 8; s++) {
                    due |= Math.abs(s - own) > k ? 1 << s : 0;
                }
                Checks.due("own " + own + ": hidden(" + k + ")", beside.hidden(k), due);
                Checks.due("own " + own + ", all but any: hidden(" + k + ")", more.hidden(k), due);
            }
        }
    }

    /** Put back into its own or into this one it is never elsewhere; into any one it may be everywhere, but not by 0 times. */
    private static void hiddenByOtherWeights() {
        StringBuilder text = new StringBuilder(EIGHT);
        for (int s = 0; s < 8; s++) {
            text.append("sleeve 3 1 0;lies ").append(s).append(' ').append(s).append(';');
        }
        for (String back : new String[] {"", "back 9 0 0 0;", "back 0 0 9 0;", "back 1 0 1 0;"}) {
            FlickedCrates x = Checks.of(text + back);
            for (int k = 0; k <= 8; k++) {
                Checks.due(back + " hidden(" + k + ")", x.hidden(k), 255 - 8);
            }
        }
        for (String back : new String[] {"back 0 0 0 1;", "back 9 9 9 1;", "back 0 0 9 1;"}) {
            FlickedCrates x = Checks.of(text + back);
            for (int k = 0; k <= 8; k++) {
                Checks.due(back + " hidden(" + k + ")", x.hidden(k), k == 0 ? 255 - 8 : 0);
            }
        }
    }

    /** "as bits", of 24 sleeves; those sold lie nowhere. */
    private static void hiddenBits() {
        StringBuilder text = new StringBuilder("crate 0;crate 1;" + "sleeve 0 9 0;".repeat(22) + "sleeve 0 9 9;sleeve 0 9 9;");
        FlickedCrates none = Checks.of(text.toString());
        Checks.due("none", none.hidden(0), 0);
        for (int s = 0; s < 24; s++) {
            none.lay(s, 1);
            Checks.due("one more", none.hidden(8), (1 << (s + 1)) - 1);
        }
        FlickedCrates sold = Checks.of(text + "looker 0 1 9 9 9;miss 1 0;");
        sold.lay(22, 1);
        sold.lay(23, 1);
        Checks.due("two", sold.hidden(0), 3 << 22);
        sold.day(3);
        Checks.due("one is sold", sold.sleeve(22, 4), -1);
        Checks.due("it is not hidden; the other one was put into its own", sold.hidden(0), 0);
        Checks.due("a new object", new FlickedCrates().hidden(0), 0);
    }

    private static String crowd(int first, int second, String more) {
        return "crate 0;crate 1;" + "sleeve 0 1 0;".repeat(first) + "sleeve 1 1 0;".repeat(second) + more;
    }

    /** "as many seconds as SLEEVES lie in it, and 1, by f, rounded up": where it lies it is for sure, and looked for first. */
    private static void secondsRoundedUp() {
        for (int n : new int[] {1, 2, 3, 6, 7, 8, 9, 15, 16, 23, 24}) {
            FlickedCrates x = Checks.of(crowd(0, n, ""));
            for (int f = 1; f <= 8; f++) {
                Checks.due(n + " by " + f, x.mean(0, 0, f, 0), (n + 1 + f - 1) / f);
                Checks.due("below", x.mean(0, 0, f, 1), 1);
                Checks.due("the first", x.order(0, 0, f, 0), 1);
                Checks.due("the second", x.order(0, 0, f, 1), 0);
            }
        }
    }

    /** "CRATES by odds for their seconds (fractions), the greatest first": with odds r of r + h, and h of r + h. */
    private static void oddsForTheirSeconds() {
        for (int r = 1; r <= 9; r += 2) {
            for (int h = 1; h <= 9; h++) {
                for (int n = 1; n <= 12; n += 3) {
                    for (int m = 0; m <= 9; m += 3) {
                        // Sleeve 0 is at home in crate 1 and lies in crate 0 with n - 1 others.
                        FlickedCrates x = Checks.of("crate 0;crate 1;sleeve 1 1 0;" + "sleeve 0 1 0;".repeat(n - 1)
                                + "sleeve 1 1 0;".repeat(m) + "lies 0 0;back " + r + " 0 " + h + " 0;");
                        boolean ownFirst = r * (n + 1) > h * (m + 1);
                        Checks.due("first", x.order(0, 1, 1, 0), ownFirst ? 1 : 0);
                        Checks.due("second", x.order(0, 1, 1, 1), ownFirst ? 0 : 1);
                        long above = ownFirst ? r * (m + 1) + h * (n + m + 2) : h * (n + 1) + r * (n + m + 2);
                        long below = r + h;
                        long by = java.math.BigInteger.valueOf(above).gcd(java.math.BigInteger.valueOf(below)).longValueExact();
                        Checks.due("mean above", x.mean(0, 1, 1, 0), above / by);
                        Checks.due("mean below", x.mean(0, 1, 1, 1), below / by);
                    }
                }
            }
        }
        // 1 of 3 for 2 seconds is more than 2 of 3 for 5 seconds, though the odds are less.
        FlickedCrates x = Checks.of("crate 0;crate 1;sleeve 1 1 0;sleeve 1 1 0;sleeve 1 1 0;sleeve 1 1 0;sleeve 1 1 0;lies 0 0;back 2 0 1 0;");
        Checks.due("the lesser odds first", x.order(0, 1, 1, 0), 0);
        Checks.due("mean", x.mean(0, 1, 1, 0), 2 + 2 * 7);
        Checks.due("mean", x.mean(0, 1, 1, 1), 3);
        // At a pace of 8 both take a second: the greater odds first.
        Checks.due("the greater odds first", x.order(0, 1, 8, 0), 1);
        Checks.due("mean", x.mean(0, 1, 8, 0), 4);
        Checks.due("mean", x.mean(0, 1, 8, 1), 3);
    }

    /** "of alike ones the first": of those of no odds too. */
    private static void alikeOnesTheFirst() {
        FlickedCrates x = Checks.of(EIGHT + "sleeve 5 1 0;");
        int[] due = {5, 0, 1, 2, 3, 4, 6, 7};
        for (int k = 0; k <= 4; k++) {
            for (int i = 0; i < 8; i++) {
                Checks.due("order(0, " + k + ", 8, " + i + ")", x.order(0, k, 8, i), due[i]);
            }
        }
        FlickedCrates any = Checks.of(EIGHT + "sleeve 5 1 0;back 0 0 0 1;");
        // All alike but for seconds: by 1 the crate in which it lies takes two.
        int[] slow = {0, 1, 2, 3, 4, 6, 7, 5};
        for (int i = 0; i < 8; i++) {
            Checks.due("any by 2", any.order(0, 4, 2, i), i);
            Checks.due("any by 1", any.order(0, 1, 1, i), slow[i]);
        }
        Checks.due("mean of 1 to 8", any.mean(0, 1, 2, 0), 9);
        Checks.due("mean of 1 to 8", any.mean(0, 1, 2, 1), 2);
        Checks.due("mean of 1 to 7, and 9", any.mean(0, 1, 1, 0), 37);
        Checks.due("mean of 1 to 7, and 9", any.mean(0, 1, 1, 1), 8);
    }

    /** "The i-th CRATE of the ORDER .. NONE: none such". */
    private static void noneSuch() {
        for (int crates = 1; crates <= 8; crates++) {
            FlickedCrates x = Checks.of(EIGHT.substring(0, 8 * crates) + "sleeve 25 1 0;");
            Checks.due("the first", x.order(0, 0, 1, 0), crates - 1);
            Checks.due("the last", x.order(0, 0, 1, crates - 1), Math.max(0, crates - 2));
            for (int i : new int[] {crates, crates + 1, -1, 8, 9, Integer.MAX_VALUE, Integer.MIN_VALUE}) {
                Checks.due("order at " + i + " of " + crates, x.order(0, 0, 1, i), -1);
            }
        }
    }

    /** "of all CRATES odds times seconds of it and all ahead of it in the ORDER, together". */
    private static void meanOfAll() {
        // Crates of 1, 3, 0: seconds 2, 4, 1 at 1; odds of beside from the middle: half, none, half.
        FlickedCrates x = Checks.of("crate 0;crate 1;crate 2;sleeve 0 1 0;sleeve 1 1 0;sleeve 1 1 0;sleeve 1 1 0;back 0 1 0 0;");
        int[] order = {2, 0, 1};
        for (int i = 0; i < 3; i++) {
            Checks.due("order at " + i, x.order(1, 1, 1, i), order[i]);
        }
        Checks.due("1 by half, 3 by half", x.mean(1, 1, 1, 0), 2);
        Checks.due("below", x.mean(1, 1, 1, 1), 1);
        // Twice: a quarter in the first and the last, by both ways half in the middle: 2, 1, 4 seconds.
        Checks.due("order, twice", x.order(1, 2, 1, 0), 2);
        Checks.due("order, twice", x.order(1, 2, 1, 1), 0);
        Checks.due("order, twice", x.order(1, 2, 1, 2), 1);
        Checks.due("a quarter of 1 and of 3, half of 7", x.mean(1, 2, 1, 0), 9);
        Checks.due("below", x.mean(1, 2, 1, 1), 2);
    }

    private static void meanSure() {
        FlickedCrates x = Checks.of(EIGHT + "sleeve 7 1 0;lies 0 0;");
        Checks.due("it lies in 0", x.mean(0, 0, 1, 0), 2);
        Checks.due("put back it is in 7", x.mean(0, 1, 1, 0), 1);
        Checks.due("for sure", x.mean(0, 4, 1, 1), 1);
        Checks.due("put back it is in 7", x.order(0, 4, 8, 0), 7);
    }

    /** "the one at which most are SEEN in a second, of these the least". */
    private static void pace() {
        Checks.due("without", new FlickedCrates().pace(), 4);
        // 8 times 4, 4 times 8.
        Checks.due("more at 8", Checks.of("crate 0;miss 8 4;").pace(), 8);
        Checks.due("alike at 4 and 8", Checks.of("crate 0;miss 8 4;miss 4 0;").pace(), 4);
        Checks.due("alike at 2 and at 4 to 8", Checks.of("crate 0;miss 1 8;miss 2 0;miss 3 8;miss 4 4;miss 5 8;miss 6 8;miss 7 8;"
                + "miss 8 6;").pace(), 2);
        Checks.due("1 alone", Checks.of("crate 0;miss 2 8;miss 3 8;miss 4 8;miss 5 8;miss 6 8;miss 7 8;miss 8 7;").pace(), 1);
        StringBuilder all = new StringBuilder("crate 0;");
        for (int f = 1; f <= 8; f++) {
            all.append("miss ").append(f).append(" 8;");
        }
        Checks.due("none seen at any", Checks.of(all.toString()).pace(), 1);
        for (int f = 1; f <= 8; f++) {
            Checks.due("seen at one alone", Checks.of(all + "miss " + f + " 7;").pace(), f);
            // Without it 2 and 7 are alike: 14 of 8.
            Checks.due("most at " + f, Checks.of("crate 0;miss 3 8;miss 4 8;miss 5 8;miss 6 8;miss " + f + " 0;").pace(),
                    Math.max(2, f));
        }
    }
}
