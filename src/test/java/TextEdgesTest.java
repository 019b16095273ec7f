/**
 * Promises 1 to 5, sentence by sentence: what a shop's text may hold, and its faults. Each sentence of the document that
 * names a bound stands over the test of it.
 */
public final class TextEdgesTest {
    /** Two crates, two sleeves and a looker, that lies, disc and left may name. */
    private static final String AHEAD = "crate 0;crate 9;sleeve 0 1 0;sleeve 9 1 0;looker 0 1 0 0 0;";

    /** A clause as its word and its numbers, of which each may be from least to most. */
    private static final class Shape {
        final String ahead;
        final String word;
        final int[] good;
        final int[][] bounds;

        Shape(String ahead, String word, int[] good, int[]... bounds) {
            this.ahead = ahead;
            this.word = word;
            this.good = good;
            this.bounds = bounds;
        }

        /** The clause with one number written otherwise. */
        String with(int slot, String number) {
            StringBuilder text = new StringBuilder(ahead).append(word);
            for (int i = 0; i < good.length; i++) {
                text.append(' ').append(i == slot ? number : String.valueOf(good[i]));
            }
            return text.append(';').toString();
        }

        int placeOf(int slot) {
            int place = ahead.length() + word.length() + 1;
            for (int i = 0; i < slot; i++) {
                place += String.valueOf(good[i]).length() + 1;
            }
            return place;
        }
    }

    private static final Shape[] SHAPES = {
        new Shape("", "crate", new int[] {0}, new int[] {0, 0}),
        new Shape("crate 0;", "crate", new int[] {7}, new int[] {1, 25}),
        new Shape("crate 0;crate 9;", "crate", new int[] {17}, new int[] {10, 25}),
        new Shape("crate 0;crate 24;", "crate", new int[] {25}, new int[] {25, 25}),
        new Shape(AHEAD, "sleeve", new int[] {5, 6, 7}, new int[] {0, 25}, new int[] {1, 99}, new int[] {0, 9}),
        new Shape(AHEAD, "lies", new int[] {1, 0}, new int[] {0, 1}, new int[] {0, 1}),
        new Shape("crate 0;sleeve 0 1 0;", "lies", new int[] {0, 0}, new int[] {0, 0}, new int[] {0, 0}),
        new Shape(AHEAD + "sleeve 0 1 0;", "disc", new int[] {2, 1}, new int[] {0, 2}, new int[] {0, 1}),
        new Shape(AHEAD + "sleeve 0 1 0;", "disc", new int[] {0, 1}, new int[] {0, 2}, new int[] {1, 2}),
        new Shape(AHEAD, "looker", new int[] {3, 4, 5, 6, 7}, new int[] {0, 600}, new int[] {1, 8}, new int[] {0, 9},
            new int[] {0, 99}, new int[] {0, 999}),
        new Shape(AHEAD, "left", new int[] {0}, new int[] {0, 0}),
        new Shape(AHEAD + "looker 0 1 0 0 0;", "left", new int[] {0}, new int[] {0, 1}),
        new Shape("crate 0;", "miss", new int[] {5, 6}, new int[] {1, 8}, new int[] {0, 8}),
        new Shape("crate 0;", "stop", new int[] {12}, new int[] {0, 30}),
        new Shape("crate 0;", "back", new int[] {1, 2, 3, 4}, new int[] {0, 9}, new int[] {0, 9}, new int[] {0, 9},
            new int[] {0, 9}),
    };

    public static void main(String[] args) {
        bytes();
        tape();
        clauses();
        crates();
        sleeves();
        lookers();
        boundsOfNumbers();
        numbersAreDigits();
        wordsAreLetters();
        blanks();
        endsTooEarly();
        whatCannotStand();
        aheadOfTheFirstCrate();
        twoThatAreOne();
        weightsAllZero();
        crateBehindAnother();
        ofOneTheLeast();
        firstFromTheLeft();
        toldAhead();
        withoutClauses();
        lastCounts();
        leftOnceOrOften();
        discsOneByOne();
        ownCrate();
        latestFault();
        allStaysBehindAFault();
        eachShopAnew();
        Checks.end();
    }

    private static void good(String text, int sleeves) {
        good(new FlickedCrates(), text, sleeves);
    }

    private static void good(FlickedCrates x, String text, int sleeves) {
        Checks.due("shop of \"" + text + "\"", Checks.shop(x, text), sleeves);
        Checks.due("fault of \"" + text + "\"", x.fault(), -1);
    }

    private static void bad(String text, int fault, int place) {
        FlickedCrates x = new FlickedCrates();
        Checks.due("shop of \"" + text + "\"", Checks.shop(x, text), fault - 10);
        Checks.due("place in \"" + text + "\"", x.fault(), place);
        Checks.due("no crates by \"" + text + "\"", x.told(0), 0);
    }

    /** "A SHOP is a text of up to 600 bytes"; "NONE, doing nothing, if there would be more than 600". */
    private static void bytes() {
        String text = "crate 0;sleeve 3 4 5;" + " ".repeat(564) + "stop 11;looker ";
        FlickedCrates x = new FlickedCrates();
        Checks.feed(x, text);
        Checks.due("a full tape", x.count(1), 600);
        Checks.due("one call more", x.feed(-1, -1, -1, -1, -1), -1);
        Checks.due("does nothing", x.count(1), 600);
        Checks.due("599 bytes", Checks.of("crate 0;").told(0), 1);
        Checks.due("shop of 600 bytes", x.shop(600), -9);
        Checks.due("ends too early at 600", x.fault(), 600);
        String whole = "crate 0;sleeve 3 4 5;" + " ".repeat(571) + "stop 11;";
        Checks.due("600 bytes", whole.length(), 600);
        good(x, whole, 1);
        Checks.due("the last byte counts", x.told(3), 11);
        Checks.feed(x, whole);
        Checks.due("599 of 600", x.shop(599), -9);
        Checks.due("its place", x.fault(), 599);
        Checks.due("all but the tape stays", x.told(3), 11);
        Checks.due("the tape is empty then", x.count(1), 0);
        Checks.due("and may be fed anew", x.feed(0, 0, 0, 0, 0), 20);
    }

    /** "Twenty bytes come on the TAPE, of each number the highest first: how many there are". */
    private static void tape() {
        FlickedCrates x = new FlickedCrates();
        Checks.due("feed", x.feed(0x63726174, 0x6520303B, 0x20202020, 0x73746F70, 0x2039203B), 20);
        Checks.due("by five numbers in their row", x.shop(20), 0);
        Checks.due("told by them", x.told(3), 9);
        // Bytes from 128 on are what can't stand there, and no letters by their lower bits.
        FlickedCrates y = new FlickedCrates();
        y.feed(0xE3F2E1F4, 0xE5A0B0BB, 0x20202020, 0x20202020, 0x20202020);
        Checks.due("high bits", y.shop(20), -9);
        Checks.due("their place", y.fault(), 0);
        y.feed(0x63726174, 0x652030BB, 0, 0, 0);
        Checks.due("a high bit at the end", y.shop(8), -9);
        Checks.due("its place", y.fault(), 7);
        FlickedCrates z = new FlickedCrates();
        for (int i = 1; i <= 29; i++) {
            z.feed(0x20202020, 0x20202020, 0x20202020, 0x20202020, 0x20202020);
        }
        Checks.due("580 and 20 are no more than 600", z.feed(0x20202020, 0x20202020, 0x20202020, 0x20202020, 0x20202020), 600);
        Checks.due("but blanks", z.shop(600), 0);
    }

    /** "{ CLAUSE ";" }, at most 60"; "a CLAUSE .. too many (at its word)". */
    private static void clauses() {
        String most = "crate 0;" + "stop 1;".repeat(58);
        good(most + "stop 2;", 0);
        good(most + "stop 2 ;  ", 0);
        bad(most + "stop 2;stop 3;", 3, most.length() + 7);
        bad(most + "stop 2;  stop 3;", 3, most.length() + 9);
        bad(most + "stop 2;stop", 3, most.length() + 7);
        bad(most + "stop 2;stop 99;", 3, most.length() + 7);
        bad(most + "stop 2;sleeve 0 1 0;", 3, most.length() + 7);
        bad(most + "stop 2", 1, most.length() + 6);
        bad(most + "stop 31;stop 3;", 2, most.length() + 5);
        String kinds = "crate 0;crate 1;sleeve 0 1 0;lies 0 0;looker 0 1 0 0 0;left 0;miss 1 0;back 1 0 0 0;sleeve 0 1 0;disc 0 1;";
        good(kinds + "stop 7;".repeat(50), 2);
        bad(kinds + "stop 7;".repeat(50) + "disc 0 1;", 3, kinds.length() + 350);
    }

    /** "CRATES, numbered from 0 on, 8 at most: begins with LETTER L, 0 to 25, above that of the one ahead; of the first one 0". */
    private static void crates() {
        StringBuilder text = new StringBuilder();
        int[] letters = {0, 1, 2, 5, 13, 23, 24, 25};
        for (int i = 0; i < 8; i++) {
            text.append("crate ").append(letters[i]).append(';');
            FlickedCrates x = Checks.of(text.toString());
            Checks.due("crates", x.told(0), i + 1);
            for (int c = 0; c <= i; c++) {
                Checks.due("letter of " + c, x.crate(c, 0), letters[c]);
                Checks.due("nothing lies in " + c, x.crate(c, 1), 0);
            }
        }
        bad(text + "crate 26;", 3, text.length());
        bad(text + "crate", 3, text.length());
        bad("crate 0;crate 1;crate 2;crate 3;crate 4;crate 5;crate 6;crate 7;crate 8;", 3, 64);
        bad("crate 0;crate 25;crate 25;", 2, 23);
    }

    /** "SLEEVES, numbered from 0 on, 24 at most". */
    private static void sleeves() {
        StringBuilder text = new StringBuilder("crate 0;");
        for (int s = 0; s < 24; s++) {
            text.append("sleeve ").append(s).append(' ').append(s + 1).append(' ').append(s % 10).append(';');
        }
        FlickedCrates x = Checks.of(text.toString());
        Checks.due("24", x.told(1), 24);
        for (int s = 0; s < 24; s++) {
            Checks.due("letter of " + s, x.sleeve(s, 0), s);
            Checks.due("price of " + s, x.sleeve(s, 1), s + 1);
            Checks.due("good of " + s, x.sleeve(s, 2), s % 10);
            Checks.due("row", x.row(0, s), s);
        }
        bad(text + "sleeve 0 1 0;", 3, text.length());
        bad(text + "stop 3; sleeve 0 1 0;", 3, text.length() + 8);
        good(text + "lies 23 0;disc 23 0;", 24);
    }

    /** "LOOKERS likewise, 6". */
    private static void lookers() {
        StringBuilder text = new StringBuilder("crate 0;");
        for (int k = 0; k < 6; k++) {
            text.append("looker ").append(600 - k).append(' ').append(k + 1).append(' ').append(k).append(' ').append(90 + k)
                    .append(' ').append(990 + k).append(';');
        }
        FlickedCrates x = Checks.of(text.toString());
        Checks.due("6", x.told(2), 6);
        for (int k = 0; k < 6; k++) {
            int[] due = {600 - k, k + 1, k, 90 + k, 990 + k, 0};
            for (int what = 0; what < 6; what++) {
                Checks.due("looker(" + k + ", " + what + ")", x.looker(k, what), due[what]);
            }
        }
        bad(text + "looker 0 1 0 0 0;", 3, text.length());
        good(text + "left 5;", 0);
        bad(text + "left 6;", 2, text.length() + 5);
    }

    /** Of each number of each clause: the least and the most that it may be, and one beyond: "a number that is none such". */
    private static void boundsOfNumbers() {
        for (Shape shape : SHAPES) {
            for (int slot = 0; slot < shape.good.length; slot++) {
                int least = shape.bounds[slot][0];
                int most = shape.bounds[slot][1];
                accepted(shape, slot, String.valueOf(least), least);
                accepted(shape, slot, String.valueOf(most), most);
                bad(shape.with(slot, String.valueOf(most + 1)), 2, shape.placeOf(slot));
                bad(shape.with(slot, String.valueOf(most + 1000)), 2, shape.placeOf(slot));
                if (least > 0) {
                    bad(shape.with(slot, String.valueOf(least - 1)), 2, shape.placeOf(slot));
                    bad(shape.with(slot, "0"), 2, shape.placeOf(slot));
                }
                bad(shape.with(slot, "-1"), 1, shape.placeOf(slot));
            }
        }
    }

    /** "Numbers: digits, as many as stand there": none wraps around, and 0 may stand ahead. */
    private static void numbersAreDigits() {
        for (Shape shape : SHAPES) {
            for (int slot = 0; slot < shape.good.length; slot++) {
                int most = shape.bounds[slot][1];
                accepted(shape, slot, "0000000000000000000000000" + most, most);
                for (String wraps : new String[] {"4294967296", "18446744073709551616", "340282366920938463463374607431768211456"}) {
                    String number = new java.math.BigInteger(wraps).add(java.math.BigInteger.valueOf(most)).toString();
                    bad(shape.with(slot, number), 2, shape.placeOf(slot));
                }
                bad(shape.with(slot, "65536"), 2, shape.placeOf(slot));
                bad(shape.with(slot, "10000"), 2, shape.placeOf(slot));
                bad(shape.with(slot, "2147483648"), 2, shape.placeOf(slot));
                bad(shape.with(slot, "1" + "0".repeat(90)), 2, shape.placeOf(slot));
                bad(shape.with(slot, "+1"), 1, shape.placeOf(slot));
                bad(shape.with(slot, "a"), 1, shape.placeOf(slot));
            }
        }
    }

    /** What the number says must be told by the object. */
    private static void accepted(Shape shape, int slot, String number, int value) {
        String text = shape.with(slot, number);
        FlickedCrates x = new FlickedCrates();
        int answer = Checks.shop(x, text);
        Checks.due("\"" + text + "\" is a shop", answer, answer < 0 ? 0 : answer);
        Checks.due("\"" + text + "\" has no fault", x.fault(), -1);
        int last = x.told(1) - 1;
        switch (shape.word) {
            case "crate":
                Checks.due(text, x.crate(x.told(0) - 1, 0), value);
                break;
            case "sleeve":
                Checks.due(text, x.sleeve(last, slot), value);
                break;
            case "lies":
                Checks.due(text, slot == 0 ? x.sleeve(value, 4) : x.sleeve(shape.good[0], 4), slot == 0 ? shape.good[1] : value);
                break;
            case "disc":
                Checks.due(text, x.sleeve(value, 5), shape.good[1 - slot]);
                Checks.due(text, x.sleeve(shape.good[1 - slot], 5), value);
                break;
            case "looker":
                Checks.due(text, x.looker(x.told(2) - 1, slot), value);
                break;
            case "left":
                Checks.due(text, x.looker(value, 5), 1);
                break;
            case "miss":
                Checks.due(text, slot == 0 ? x.missed(value) : x.missed(shape.good[0]), slot == 0 ? shape.good[1] : value);
                break;
            case "stop":
                Checks.due(text, x.told(3), value);
                break;
            default:
                Checks.due(text, x.told(4 + slot), value);
        }
    }

    /** "WORDS: small letters, as many as stand there". */
    private static void wordsAreLetters() {
        for (Shape shape : SHAPES) {
            int at = shape.ahead.length();
            String numbers = shape.with(-1, "").substring(at + shape.word.length());
            good(shape.ahead + shape.word + numbers, Checks.shop(new FlickedCrates(), shape.with(-1, "")));
            bad(shape.ahead + shape.word + "s" + numbers, 1, at);
            bad(shape.ahead + shape.word + "a" + numbers, 1, at);
            bad(shape.ahead + shape.word + "z" + numbers, 1, at);
            bad(shape.ahead + "x" + shape.word + numbers, 1, at);
            bad(shape.ahead + shape.word.substring(1) + numbers, 1, at);
            bad(shape.ahead + shape.word.substring(0, shape.word.length() - 1) + numbers, 1, at);
            bad(shape.ahead + shape.word + shape.word + numbers, 1, at);
            for (int i = 0; i < shape.word.length(); i++) {
                char[] other = shape.word.toCharArray();
                other[i] = other[i] == 'z' ? 'y' : 'z';
                bad(shape.ahead + new String(other) + numbers, 1, at);
                other[i] = Character.toUpperCase(shape.word.charAt(i));
                // A word ends where no small letter stands: what is left of it is none, too.
                bad(shape.ahead + new String(other) + numbers, 1, at);
            }
            // No blank need stand between a word and a number.
            good(shape.ahead + shape.word + numbers.trim(), Checks.shop(new FlickedCrates(), shape.with(-1, "")));
        }
    }

    /** "blanks (32) may stand ahead of all these, and at the end". */
    private static void blanks() {
        for (Shape shape : SHAPES) {
            String text = shape.with(-1, "");
            int sleeves = Checks.shop(new FlickedCrates(), text);
            String wide = text.replace(" ", "    ").replace(";", "   ;   ");
            if (wide.length() <= 600) {
                good("  " + wide + "  ", sleeves);
            }
            // Ahead of the first wrong byte they do not count.
            bad(text + "   !", 1, text.length() + 3);
            bad(text.substring(0, text.length() - 1) + "   !", 1, text.length() + 2);
            // No other sign is a blank.
            for (char sign : new char[] {'\t', '\n', '\r', '\0', (char) 160, (char) 31, (char) 33}) {
                bad(text + sign, 1, text.length());
                bad(text.substring(0, text.length() - 1) + sign + ";", 1, text.length() - 1);
                bad(shape.ahead + sign + shape.word, 1, shape.ahead.length());
                bad(shape.ahead + shape.word + sign + "0;", 1, shape.ahead.length() + shape.word.length());
            }
        }
        bad("crate 0;sto p 1;", 1, 8);
        bad("crate 0;stop 1 2;", 1, 15);
        good("crate 0;stop 12;", 0);
    }

    /** "at the length, if the text ends too early". */
    private static void endsTooEarly() {
        for (Shape shape : SHAPES) {
            String text = shape.with(-1, "");
            for (int n = shape.ahead.length() + shape.word.length(); n < text.length(); n++) {
                if (Character.isDigit(text.charAt(n)) && Character.isDigit(text.charAt(n - 1))) {
                    continue;
                }
                cut(text, n, n);
                String wide = text.substring(0, n) + "   ";
                cut(wide + ";", n + 3, n + 3);
            }
            // A word that has just begun is none: that can't stand there.
            for (int n = shape.ahead.length() + 1; n < shape.ahead.length() + shape.word.length(); n++) {
                cut(text, n, shape.ahead.length());
            }
            FlickedCrates x = new FlickedCrates();
            Checks.feed(x, text);
            Checks.due("all that stands ahead is a shop", x.shop(shape.ahead.length()) >= 0 ? 1 : 0, 1);
        }
        good("", 0);
    }

    /** The first n bytes alone are read, whatever lies behind them on the tape. */
    private static void cut(String text, int n, int place) {
        FlickedCrates x = new FlickedCrates();
        Checks.feed(x, text);
        Checks.due(n + " bytes of \"" + text + "\"", x.shop(n), -9);
        Checks.due("place in " + n + " bytes of \"" + text + "\"", x.fault(), place);
    }

    /** "1 what can't stand there". */
    private static void whatCannotStand() {
        for (Shape shape : SHAPES) {
            String text = shape.with(-1, "");
            int numbers = shape.good.length;
            for (int slot = 0; slot < numbers; slot++) {
                int at = shape.placeOf(slot);
                bad(text.substring(0, at) + ";", 1, at);
                bad(text.substring(0, at) + "x;", 1, at);
                bad(text.substring(0, at) + "/", 1, at);
                bad(text.substring(0, at) + ":", 1, at);
            }
            bad(text.substring(0, text.length() - 1) + " 1;", 1, text.length());
            bad(text.substring(0, text.length() - 1) + ",", 1, text.length() - 1);
            bad(text.substring(0, text.length() - 1) + " stop 1;", 1, text.length());
            bad(text + ";", 1, text.length());
            bad(text + "0;", 1, text.length());
        }
        bad(";", 1, 0);
        bad(" ;", 1, 1);
        bad("0;", 1, 0);
        bad("{", 1, 0);
        bad("`", 1, 0);
    }

    /** "any other CLAUSE ahead of the first crate": 1, at its word, and none of its numbers is looked at. */
    private static void aheadOfTheFirstCrate() {
        for (String word : new String[] {"sleeve", "lies", "disc", "looker", "left", "miss", "stop", "back"}) {
            bad(word + " 1 1 1 1 1;", 1, 0);
            bad("   " + word + " 99999", 1, 3);
            bad(word, 1, 0);
        }
        good("crate 0;", 0);
        bad("crate", 1, 5);
    }

    /** "two SLEEVES that are one: at the second". */
    private static void twoThatAreOne() {
        bad("crate 0;sleeve 0 1 0;sleeve 0 1 0;disc 1 1;", 2, 41);
        bad("crate 0;sleeve 0 1 0;sleeve 0 1 0;disc 0   000;", 2, 43);
        bad("crate 0;sleeve 0 1 0;sleeve 0 1 0;disc 1 1", 2, 41);
        bad("crate 0;sleeve 0 1 0;sleeve 0 1 0;disc 2 2;", 2, 39);
        bad("crate 0;sleeve 0 1 0;sleeve 0 1 0;disc 1 2;", 2, 41);
        good("crate 0;sleeve 0 1 0;sleeve 0 1 0;disc 1 0;", 2);
        // One sleeve alone has none to change with.
        bad("crate 0;sleeve 0 1 0;disc 0 0;", 2, 28);
    }

    /** "weights all 0: at the last". */
    private static void weightsAllZero() {
        bad("crate 0;back 0 0 0 0;", 2, 19);
        bad("crate 0;back 00 0  0   000 ;", 2, 23);
        bad("crate 0;back 0 0 0 0", 2, 19);
        bad("crate 0;back 10 0 0 0;", 2, 13);
        for (int slot = 0; slot < 4; slot++) {
            StringBuilder text = new StringBuilder("crate 0;back");
            for (int i = 0; i < 4; i++) {
                text.append(i == slot ? " 1" : " 0");
            }
            FlickedCrates x = Checks.of(text + ";");
            for (int i = 0; i < 4; i++) {
                Checks.due(text + ": told(" + (4 + i) + ")", x.told(4 + i), i == slot ? 1 : 0);
            }
        }
    }

    /** "4 a crate behind another CLAUSE (at its word)". */
    private static void crateBehindAnother() {
        for (Shape shape : SHAPES) {
            if (!shape.word.equals("crate")) {
                String text = shape.with(-1, "");
                bad(text + "crate 20;", 4, text.length());
                bad(text + "  crate 20;", 4, text.length() + 2);
                bad(text + "crate", 4, text.length());
                bad(text + "crate 99;", 4, text.length());
            }
        }
    }

    /** "of one the least": of several faults at one place. */
    private static void ofOneTheLeast() {
        String eight = "crate 0;crate 1;crate 2;crate 3;crate 4;crate 5;crate 6;crate 7;";
        bad(eight + "stop 1;crate 9;", 3, eight.length() + 7);
        bad("crate 0;stop 1;crate 9;", 4, 15);
        String sixty = "crate 0;" + "stop 5;".repeat(59);
        bad(sixty + "crate 9;", 3, sixty.length());
        bad(sixty + "crates 9;", 1, sixty.length());
        bad(sixty + "!", 1, sixty.length());
        bad(sixty + "7", 1, sixty.length());
        String crates = eight + "stop 5;".repeat(52);
        good(crates, 0);
        bad(crates + "crate 9;", 3, crates.length());
    }

    /** "FAULTS, the first from the left, at its first byte". */
    private static void firstFromTheLeft() {
        bad("crate 0;sleeve 26 0 10;", 2, 15);
        bad("crate 0;sleeve 25 0 10;", 2, 18);
        bad("crate 0;sleeve 25 1 10;", 2, 20);
        bad("crate 0;sleeve 25 1 10", 2, 20);
        bad("crate 0;sleeve x 0 10;", 1, 15);
        bad("crate 0;sleeve 26 x;", 2, 15);
        bad("crate 0;stop 31;crate 5;", 2, 13);
        bad("crate 0;stop 30;crate 5;stop 31;", 4, 16);
        bad("crate 0;stop 31", 2, 13);
        bad("crate 0;stop 31x", 2, 13);
        bad("crate 5;sleeve", 2, 6);
        bad("crate 0;looker 1 0 10 100;", 2, 17);
        bad("crate 0;crate 0;!", 2, 14);
    }

    /** "S, C, K: told ahead". */
    private static void toldAhead() {
        bad("crate 0;lies 0 0;sleeve 0 1 0;", 2, 13);
        bad("crate 0;sleeve 0 1 0;disc 0 1;sleeve 0 1 0;", 2, 28);
        bad("crate 0;sleeve 0 1 0;disc 1 0;sleeve 0 1 0;", 2, 26);
        bad("crate 0;left 0;looker 0 1 0 0 0;", 2, 13);
        bad("crate 0;looker 0 1 0 0 0;left 1;looker 0 1 0 0 0;", 2, 30);
        bad("crate 0;sleeve 0 1 0;lies 0 1;", 2, 28);
        good("crate 0;sleeve 0 1 0;lies 0 0;sleeve 0 1 0;disc 0 1;looker 0 1 0 0 0;left 0;looker 0 1 0 0 0;left 1;", 2);
    }

    /** "F less 1 without", "5 without", "1 0 0 0 without", "in its OWN without", "others from the first to the last". */
    private static void withoutClauses() {
        FlickedCrates[] all = {new FlickedCrates(), Checks.of("crate 0;crate 5;sleeve 4 1 0;sleeve 5 1 0;looker 0 1 0 0 0;"),
            Checks.of("")};
        for (FlickedCrates x : all) {
            for (int f = 1; f <= 8; f++) {
                Checks.due("missed(" + f + ")", x.missed(f), f - 1);
            }
            Checks.due("stop", x.told(3), 5);
            for (int i = 0; i < 4; i++) {
                Checks.due("weight " + i, x.told(4 + i), i == 0 ? 1 : 0);
            }
        }
        Checks.due("in its own", all[1].sleeve(0, 4), 0);
        Checks.due("in its own", all[1].sleeve(1, 4), 1);
        Checks.due("its own disc", all[1].sleeve(1, 5), 1);
        Checks.due("to the right", all[1].looker(0, 5), 0);
    }

    /** "of miss of one PACE, stop, back the last counts", and of lies: "the last counts". */
    private static void lastCounts() {
        FlickedCrates x = Checks.of("crate 0;crate 5;crate 9;sleeve 0 1 0;sleeve 0 1 0;lies 0 2;lies 1 2;lies 0 1;stop 30;stop 0;"
                + "miss 1 8;miss 2 3;miss 1 0;miss 8 8;back 9 9 9 9;back 0 0 0 1;");
        Checks.due("lies", x.sleeve(0, 4), 1);
        Checks.due("lies", x.sleeve(1, 4), 2);
        Checks.due("stop", x.told(3), 0);
        int[] missed = {0, 3, 2, 3, 4, 5, 6, 8};
        for (int f = 1; f <= 8; f++) {
            Checks.due("missed(" + f + ")", x.missed(f), missed[f - 1]);
        }
        int[] back = {0, 0, 0, 1};
        for (int i = 0; i < 4; i++) {
            Checks.due("weight " + i, x.told(4 + i), back[i]);
        }
        Checks.due("back into its own by a later lies", Checks.of("crate 0;crate 5;sleeve 0 1 0;lies 0 1;lies 0 0;").sleeve(0, 4), 0);
        // "In a CRATE SLEEVES lie in a row, at first by number", whichever lies came last.
        FlickedCrates y = Checks.of("crate 0;crate 5;sleeve 0 1 0;sleeve 9 1 0;sleeve 0 1 0;lies 2 1;lies 0 1;");
        Checks.row("by number", y, 1, 0, 1, 2);
        Checks.row("by number", y, 0);
    }

    /** "of left once or often is alike". */
    private static void leftOnceOrOften() {
        for (int times = 0; times < 5; times++) {
            FlickedCrates x = Checks.of("crate 0;looker 0 1 0 0 0;looker 0 1 0 0 0;" + "left 1;".repeat(times));
            Checks.due(times + " times left", x.looker(1, 5), times == 0 ? 0 : 1);
            Checks.due("the other one", x.looker(0, 5), 0);
        }
    }

    /** "the discs that are in SLEEVES S and T change places": those that are in them by then. */
    private static void discsOneByOne() {
        String three = "crate 0;sleeve 0 1 0;sleeve 0 1 0;sleeve 0 1 0;";
        int[][] due = {{0, 1, 2}, {1, 0, 2}, {1, 2, 0}, {0, 2, 1}, {0, 1, 2}};
        String[] more = {"", "disc 0 1;", "disc 1 2;", "disc 2 0;", "disc 2 1;"};
        StringBuilder text = new StringBuilder(three);
        for (int i = 0; i < due.length; i++) {
            text.append(more[i]);
            FlickedCrates x = Checks.of(text.toString());
            for (int s = 0; s < 3; s++) {
                Checks.due("disc in " + s + " by " + text, x.sleeve(s, 5), due[i][s]);
            }
        }
    }

    /** "the last one that does not begin above its LETTER". */
    private static void ownCrate() {
        FlickedCrates x = Checks.of("crate 0;crate 1;crate 12;crate 25;sleeve 0 1 0;sleeve 1 1 0;sleeve 2 1 0;sleeve 11 1 0;"
                + "sleeve 12 1 0;sleeve 13 1 0;sleeve 24 1 0;sleeve 25 1 0;");
        int[] own = {0, 1, 1, 1, 2, 2, 2, 3};
        for (int s = 0; s < own.length; s++) {
            Checks.due("own crate of " + s, x.sleeve(s, 3), own[s]);
            Checks.due("it lies there", x.sleeve(s, 4), own[s]);
        }
        Checks.due("one crate is that of all", Checks.of("crate 0;sleeve 25 1 0;").sleeve(0, 3), 0);
    }

    /** "The place of the FAULT of the latest shop(); NONE without". */
    private static void latestFault() {
        FlickedCrates x = new FlickedCrates();
        Checks.due("new", x.fault(), -1);
        Checks.due("a fault at 0", Checks.shop(x, "!"), -9);
        Checks.due("at 0", x.fault(), 0);
        Checks.due("a later one", Checks.shop(x, "crate 0;stop 31;"), -8);
        Checks.due("at 13", x.fault(), 13);
        x.feed(0, 0, 0, 0, 0);
        Checks.due("fed", x.fault(), 13);
        Checks.notFit("refused", x, () -> x.shop(21));
        Checks.due("a refused one had no text", x.fault(), 13);
        Checks.due("nothing", x.shop(0), 0);
        Checks.due("without", x.fault(), -1);
        Checks.due("a fault again", Checks.shop(x, "crate 0;crate 0;"), -8);
        good(x, "crate 0;", 0);
    }

    /** "or the FAULT less 10 (all but the TAPE stays)"; "(IMAGES gone)" of a shop alone. */
    private static void allStaysBehindAFault() {
        String[] faulty = {"crate 0;!", "crate 0;crate 3;sleeve 0 100 0;", "crate 0;sleeve 0 1 0;stop 1;" + "sleeve 0 1 0;".repeat(24),
            "crate 0;looker 1 1 1 1 1;miss 3 8;stop 30;back 9 9 9 9;crate 3;", "crate 0"};
        int[] due = {-9, -8, -7, -6, -9};
        for (int i = 0; i < faulty.length; i++) {
            FlickedCrates x = used();
            Checks.due(faulty[i], Checks.shop(x, faulty[i]), due[i]);
            Checks.due("the tape", x.count(1), 0);
            asUsed(x);
            Checks.due("images", x.count(0), 2);
            Checks.due("restore", x.restore(), 1);
            Checks.due("restore", x.restore(), 0);
            Checks.row("the first image", x, 0, 0);
        }
        FlickedCrates x = used();
        good(x, "crate 0;sleeve 0 1 0;", 1);
        Checks.due("images gone", x.count(0), 0);
        Checks.due("none to restore", x.restore(), -1);
        Checks.row("the new row", x, 0, 0);
        Checks.due("lookers gone", x.told(2), 0);
    }

    private static FlickedCrates used() {
        FlickedCrates x = Checks.of("crate 0;crate 10;sleeve 3 7 5;sleeve 12 4 9;looker 1 2 3 4 5;left 0;miss 2 7;stop 9;back 1 2 3 4;");
        x.image();
        x.lay(0, 1);
        x.change(0, 1);
        x.wander(0, 1);
        x.image();
        return x;
    }

    private static void asUsed(FlickedCrates x) {
        int[] told = {2, 2, 1, 9, 1, 2, 3, 4};
        for (int what = 0; what < 8; what++) {
            Checks.due("stays: told(" + what + ")", x.told(what), told[what]);
        }
        int[] looker = {1, 2, 3, 4, 5, 1};
        for (int what = 0; what < 6; what++) {
            Checks.due("stays: looker(0, " + what + ")", x.looker(0, what), looker[what]);
        }
        Checks.due("stays: missed", x.missed(2), 7);
        Checks.due("stays: missed", x.missed(3), 2);
        Checks.row("stays", x, 0);
        Checks.row("stays", x, 1, 1, 0);
        Checks.due("stays: price", x.sleeve(0, 1), 7);
        Checks.due("stays: disc", x.sleeve(0, 5), 1);
        Checks.due("stays: divider", x.divider(0), 1);
        Checks.due("stays: letter", x.crate(1, 0), 10);
    }

    /** What a shop's text does not tell is as "without" it, whatever the one ahead, or a faulty one, told. */
    private static void eachShopAnew() {
        StringBuilder all = new StringBuilder("crate 0;crate 3;crate 9;" + "sleeve 9 1 1;".repeat(6) + "looker 9 8 9 9 9;".repeat(2));
        all.append("left 0;left 1;stop 30;back 9 8 7 6;lies 0 0;lies 1 1;disc 0 5;disc 1 4;");
        for (int f = 1; f <= 8; f++) {
            all.append("miss ").append(f).append(' ').append(f == 8 ? 1 : 8).append(';');
        }
        for (String end : new String[] {"", "!"}) {
            FlickedCrates x = new FlickedCrates();
            Checks.due("with all", Checks.shop(x, all + end), end.isEmpty() ? 6 : -9);
            if (end.isEmpty()) {
                x.wander(0, 2);
                x.lay(2, 0);
                x.change(2, 3);
            }
            good(x, "crate 0;crate 5;sleeve 0 2 0;sleeve 7 3 0;sleeve 0 4 0;looker 1 2 3 4 5;looker 5 4 3 2 1;", 3);
            int[] told = {2, 3, 2, 5, 1, 0, 0, 0};
            for (int what = 0; what < 8; what++) {
                Checks.due("anew: told(" + what + ")", x.told(what), told[what]);
            }
            for (int f = 1; f <= 8; f++) {
                Checks.due("anew: missed(" + f + ")", x.missed(f), f - 1);
            }
            int[][] lookers = {{1, 2, 3, 4, 5, 0}, {5, 4, 3, 2, 1, 0}};
            for (int k = 0; k < 2; k++) {
                for (int what = 0; what < 6; what++) {
                    Checks.due("anew: looker(" + k + ", " + what + ")", x.looker(k, what), lookers[k][what]);
                }
            }
            Checks.row("anew", x, 0, 0, 2);
            Checks.row("anew", x, 1, 1);
            for (int s = 0; s < 3; s++) {
                Checks.due("anew: disc in " + s, x.sleeve(s, 5), s);
            }
            Checks.due("anew: divider", x.divider(0), 0);
            Checks.due("anew: divider", x.divider(1), 1);
            Checks.due("anew: changes", x.changes(), 0);
        }
        // Clauses, crates, sleeves and lookers are counted anew, and so is the crate behind another clause.
        FlickedCrates x = new FlickedCrates();
        for (int round = 0; round < 3; round++) {
            good(x, "crate 0;" + "stop 5;".repeat(59), 0);
            good(x, "crate 0;crate 1;crate 2;crate 3;crate 4;crate 5;crate 6;crate 7;", 0);
            good(x, "crate 0;" + "sleeve 1 2 3;".repeat(24), 24);
            good(x, "crate 0;" + "looker 0 1 0 0 0;".repeat(6), 0);
        }
    }
}
