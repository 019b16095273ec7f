/** Promises 1 to 5: a new object, feed, shop, fault, told; and the text of a shop with its faults. */
public final class ShopTest {
    public static void main(String[] args) {
        newObject();
        feeding();
        shopTakesTheTape();
        told();
        clauses();
        blanks();
        faultsOfPlace();
        faultsOfNumbers();
        tooMany();
        crateBehind();
        faultLeavesAll();
        Checks.end();
    }

    private static void newObject() {
        FlickedCrates x = new FlickedCrates();
        int[] due = {0, 0, 0, 5, 1, 0, 0, 0};
        for (int what = 0; what < 8; what++) {
            Checks.due("new told(" + what + ")", x.told(what), due[what]);
        }
        for (int f = 1; f <= 8; f++) {
            Checks.due("new missed(" + f + ")", x.missed(f), f - 1);
        }
        Checks.due("new fault()", x.fault(), -1);
        Checks.due("new divider(0)", x.divider(0), -1);
        for (int what = 0; what < 3; what++) {
            Checks.due("new count(" + what + ")", x.count(what), 0);
        }
        for (int what = 0; what < 6; what++) {
            Checks.due("new would(1, " + what + ")", x.would(1, what), 0);
        }
        Checks.noCrate("new crate(0, 0)", x, () -> x.crate(0, 0));
        Checks.noSuch("new sleeve(0, 0)", x, () -> x.sleeve(0, 0));
        Checks.noSuch("new looker(0, 0)", x, () -> x.looker(0, 0));
    }

    private static void feeding() {
        FlickedCrates x = new FlickedCrates();
        for (int i = 1; i <= 30; i++) {
            Checks.due("feed " + i, x.feed(i, -1, 0, 7, 8), 20 * i);
        }
        Checks.due("feed beyond 600", x.feed(1, 2, 3, 4, 5), -1);
        Checks.due("tape stays", x.count(1), 600);
        // The highest byte of each number comes first.
        FlickedCrates y = new FlickedCrates();
        y.feed(0x63726174, 0x6520303B, 0, 0, 0);
        Checks.due("crate 0; by its bytes", y.shop(8), 0);
        Checks.due("one crate", y.told(0), 1);
    }

    private static void shopTakesTheTape() {
        FlickedCrates x = new FlickedCrates();
        Checks.feed(x, "crate 0;sleeve 1 2 3;");
        Checks.notFit("shop(-1)", x, () -> x.shop(-1));
        Checks.notFit("shop(41)", x, () -> x.shop(41));
        Checks.due("tape stays", x.count(1), 40);
        Checks.due("first bytes", x.shop(8), 0);
        Checks.due("tape is empty", x.count(1), 0);
        Checks.due("no fault", x.fault(), -1);
        Checks.due("a fault", Checks.shop(x, "crate 0;sleeve 1 2"), -9);
        Checks.due("its place is the length", x.fault(), 18);
        Checks.due("tape is empty behind a fault", x.count(1), 0);
        Checks.notFit("shop(1) of nothing", x, () -> x.shop(1));
        Checks.due("a refused shop() leaves the fault", x.fault(), 18);
        Checks.due("crates stay", x.told(0), 1);
        Checks.due("an image", x.image(), 1);
        Checks.due("a fault again", Checks.shop(x, "x"), -9);
        Checks.due("images stay behind a fault", x.count(0), 1);
        Checks.due("nothing is a shop", x.shop(0), 0);
        Checks.due("no crates then", x.told(0), 0);
        Checks.due("images gone", x.count(0), 0);
        Checks.due("fault gone", x.fault(), -1);
    }

    private static void told() {
        FlickedCrates x = Checks.of("crate 0;crate 9;sleeve 1 2 3;looker 1 2 3 4 5;looker 5 4 3 2 1;looker 0 1 0 0 0;"
                + "stop 30;stop 17;back 1 1 1 1;back 9 0 7 3;");
        int[] due = {2, 1, 3, 17, 9, 0, 7, 3};
        for (int what = 0; what < 8; what++) {
            Checks.due("told(" + what + ")", x.told(what), due[what]);
        }
        Checks.notFit("told(8)", x, () -> x.told(8));
        Checks.notFit("told(-1)", x, () -> x.told(-1));
        Checks.shop(x, "crate 0;looker 1 1 1 1 1;left 0;miss 5 8;sleeve 0 1 1;sleeve 0 1 1;disc 0 1;");
        Checks.due("to the left", x.looker(0, 5), 1);
        Checks.shop(x, "crate 0;looker 1 1 1 1 1;sleeve 0 1 1;sleeve 0 1 1;");
        Checks.due("not to the left in the next shop", x.looker(0, 5), 0);
        Checks.due("missed in the next shop", x.missed(5), 4);
        Checks.due("disc in the next shop", x.sleeve(0, 5), 0);
        Checks.due("the next shop begins anew", Checks.shop(x, "crate 0;"), 0);
        int[] anew = {1, 0, 0, 5, 1, 0, 0, 0};
        for (int what = 0; what < 8; what++) {
            Checks.due("anew told(" + what + ")", x.told(what), anew[what]);
        }
    }

    private static void clauses() {
        FlickedCrates x = Checks.of("crate 0;crate 25;sleeve 0 1 0;sleeve 25 99 9;sleeve 24 50 5;lies 0 1;lies 2 1;lies 2 0;"
                + "disc 0 1;disc 1 2;looker 600 8 9 99 999;looker 0 1 0 0 0;left 1;left 1;miss 8 0;miss 3 8;miss 3 7;");
        Checks.row("text", x, 0, 2);
        Checks.row("text", x, 1, 0, 1);
        Checks.due("disc of 0", x.sleeve(0, 5), 1);
        Checks.due("disc of 1", x.sleeve(1, 5), 2);
        Checks.due("disc of 2", x.sleeve(2, 5), 0);
        Checks.due("left of 0", x.looker(0, 5), 0);
        Checks.due("left of 1", x.looker(1, 5), 1);
        Checks.due("missed(8)", x.missed(8), 0);
        Checks.due("missed(3)", x.missed(3), 7);
        Checks.due("missed(4)", x.missed(4), 3);
    }

    private static void blanks() {
        FlickedCrates x = new FlickedCrates();
        good(x, "   ", 0);
        good(x, "crate0;", 0);
        good(x, "crate 000;", 0);
        good(x, "  crate   0  ;  sleeve  01  002 3  ;   ", 1);
        good(x, "crate 0;looker 1 1 1 1 1;", 0);
        bad(x, "cr ate 0;", 1, 0);
        bad(x, "crate 0;sleeve 1 2 3 ;x", 1, 22);
        bad(x, "crate 0;sleeve 1 23;", 1, 19);
        bad(x, "crate 0;\tstop 1;", 1, 8);
    }

    private static void faultsOfPlace() {
        FlickedCrates x = new FlickedCrates();
        bad(x, "crate 0", 1, 7);
        bad(x, "crate 0;crate", 1, 13);
        bad(x, "crate   ", 1, 8);
        bad(x, "crate 0;stop 5   ", 1, 17);
        bad(x, ";", 1, 0);
        bad(x, "crate 0;;", 1, 8);
        bad(x, "Crate 0;", 1, 0);
        bad(x, "crate 0;crates 1;", 1, 8);
        bad(x, "crate 0;sto", 1, 8);
        bad(x, "crate 0;stop;", 1, 12);
        bad(x, "crate 0;stop x;", 1, 13);
        bad(x, "crate 0;stop 5x;", 1, 14);
        bad(x, "crate 0;stop -1;", 1, 13);
        bad(x, "crate 0 5;", 1, 8);
        bad(x, "crate 0;7;", 1, 8);
        bad(x, "crate 0;stop 5\u00ff;", 1, 14);
        bad(x, "crate 0;stopz 5;", 1, 8);
        bad(x, "crate 0;stopa 5;", 1, 8);
        bad(x, "crate 0;stop{ 5;", 1, 12);
        bad(x, "crate 0;stop`5;", 1, 12);
        bad(x, "crate 0;stop /5;", 1, 13);
        bad(x, "crate 0;stop 5:;", 1, 14);
        // What lies on the tape behind the first n bytes is no part of the text.
        cut(x, "crate 0;stop 5;", 14, 1, 14);
        cut(x, "crate 0;stop 5   ;", 15, 1, 15);
        cut(x, "crate 0;stop 5", 11, 1, 8);
        cut(x, "crate 0;stop 31;", 14, 1, 14);
        cut(x, "crate 0;    stop 3;", 10, 0, -1);
        String[] words = {"sleeve 0 1 0;", "lies 0 0;", "disc 0 1;", "looker 0 1 0 0 0;", "left 0;", "miss 1 0;",
            "stop 1;", "back 1 0 0 0;"};
        for (String word : words) {
            bad(x, "  " + word + "crate 0;", 1, 2);
        }
    }

    private static void faultsOfNumbers() {
        FlickedCrates x = new FlickedCrates();
        bad(x, "crate 1;", 2, 6);
        bad(x, "crate 0;crate 26;", 2, 14);
        bad(x, "crate 0;crate 5;crate 5;", 2, 22);
        bad(x, "crate 0;crate 5;crate 4;", 2, 22);
        bad(x, "crate 0;sleeve 26 1 0;", 2, 15);
        bad(x, "crate 0;sleeve 0 0 0;", 2, 17);
        bad(x, "crate 0;sleeve 0 100 0;", 2, 17);
        bad(x, "crate 0;sleeve 0 1 10;", 2, 19);
        bad(x, "crate 0;lies 0 0;", 2, 13);
        bad(x, "crate 0;sleeve 0 1 0;lies 1 0;", 2, 26);
        bad(x, "crate 0;sleeve 0 1 0;lies 0 1;", 2, 28);
        bad(x, "crate 0;sleeve 0 1 0;disc 0 1;", 2, 28);
        bad(x, "crate 0;sleeve 0 1 0;disc 1 0;", 2, 26);
        bad(x, "crate 0;sleeve 0 1 0;disc 0 0;", 2, 28);
        bad(x, "crate 0;sleeve 0 1 0;disc 0 0x", 2, 28);
        bad(x, "crate 0;looker 601 1 0 0 0;", 2, 15);
        bad(x, "crate 0;looker 0 0 0 0 0;", 2, 17);
        bad(x, "crate 0;looker 0 9 0 0 0;", 2, 17);
        bad(x, "crate 0;looker 0 1 10 0 0;", 2, 19);
        bad(x, "crate 0;looker 0 1 0 100 0;", 2, 21);
        bad(x, "crate 0;looker 0 1 0 0 1000;", 2, 23);
        bad(x, "crate 0;left 0;", 2, 13);
        bad(x, "crate 0;looker 0 1 0 0 0;left 1;", 2, 30);
        bad(x, "crate 0;miss 0 0;", 2, 13);
        bad(x, "crate 0;miss 9 0;", 2, 13);
        bad(x, "crate 0;miss 1 9;", 2, 15);
        bad(x, "crate 0;stop 31;", 2, 13);
        bad(x, "crate 0;stop 99999999999999999999;", 2, 13);
        bad(x, "crate 0;stop 4294967296;", 2, 13);
        bad(x, "crate 0;back 10 0 0 0;", 2, 13);
        bad(x, "crate 0;back 0 0 0 10;", 2, 19);
        bad(x, "crate 0;back 0 0 0 0;", 2, 19);
        bad(x, "crate 0;back 0 0 0  00x", 2, 20);
        bad(x, "crate 0;back 0 0 0;", 1, 18);
        bad(x, "crate 5x;", 2, 6);
    }

    private static void tooMany() {
        FlickedCrates x = new FlickedCrates();
        String crates = "crate 0;crate 1;crate 2;crate 3;crate 4;crate 5;crate 6;crate 7;";
        good(x, crates, 0);
        Checks.due("eight crates", x.told(0), 8);
        bad(x, crates + " crate 0;", 3, crates.length() + 1);
        bad(x, crates + "stop 1;crate 9;", 3, crates.length() + 7);
        String sleeves = "crate 0;" + "sleeve 1 2 3;".repeat(24);
        good(x, sleeves, 24);
        bad(x, sleeves + "sleeve 1 2 3;", 3, sleeves.length());
        bad(x, sleeves + "sleeve", 3, sleeves.length());
        String lookers = "crate 0;" + "looker 0 1 0 0 0;".repeat(6);
        good(x, lookers, 0);
        bad(x, lookers + "looker 0 1 0 0 0;", 3, lookers.length());
        String most = "crate 0;" + "stop 5;".repeat(59);
        good(x, most, 0);
        bad(x, most + "stop 5;", 3, most.length());
        bad(x, most + "crate 5;", 3, most.length());
        bad(x, most + "stops 5;", 1, most.length());
        bad(x, most + ";", 1, most.length());
        good(x, most + "   ", 0);
    }

    private static void crateBehind() {
        FlickedCrates x = new FlickedCrates();
        bad(x, "crate 0;stop 5; crate 5;", 4, 16);
        bad(x, "crate 0;sleeve 1 1 1;crate 26;", 4, 21);
        bad(x, "crate 0;crate 3;left 0;crate 26;", 2, 21);
    }

    private static void faultLeavesAll() {
        FlickedCrates x = Checks.of("crate 0;crate 10;sleeve 3 7 5;sleeve 12 4 9;looker 1 2 3 4 5;miss 2 7;stop 9;back 1 2 3 4;");
        x.lay(0, 1);
        x.change(0, 1);
        x.wander(0, 1);
        Checks.due("a fault", Checks.shop(x, "crate 0;sleeve 1 1 1;looker 0 1 0 0 0;stop 3;miss 2 1;back 5 5 5 5;!"), -9);
        int[] due = {2, 2, 1, 9, 1, 2, 3, 4};
        for (int what = 0; what < 8; what++) {
            Checks.due("stays told(" + what + ")", x.told(what), due[what]);
        }
        Checks.due("stays missed", x.missed(2), 7);
        Checks.row("stays", x, 1, 1, 0);
        Checks.due("stays disc", x.sleeve(0, 5), 1);
        Checks.due("stays divider", x.divider(0), 1);
        Checks.due("stays looker", x.looker(0, 4), 5);
        Checks.due("stays letter", x.crate(1, 0), 10);
    }

    private static void good(FlickedCrates x, String text, int sleeves) {
        Checks.due("shop of \"" + text + "\"", Checks.shop(x, text), sleeves);
        Checks.due("fault of \"" + text + "\"", x.fault(), -1);
    }

    private static void cut(FlickedCrates x, String text, int n, int fault, int place) {
        Checks.feed(x, text);
        Checks.due(n + " bytes of \"" + text + "\"", x.shop(n), fault == 0 ? 0 : fault - 10);
        Checks.due("place in " + n + " bytes of \"" + text + "\"", x.fault(), place);
    }

    private static void bad(FlickedCrates x, String text, int fault, int place) {
        Checks.due("shop of \"" + text + "\"", Checks.shop(x, text), fault - 10);
        Checks.due("place in \"" + text + "\"", x.fault(), place);
    }
}
