/** Promises 28 to 32: changes, changed, divider, moves, rests. */
public final class DiscsTest {
    public static void main(String[] args) {
        discs();
        dividers();
        rests();
        Checks.end();
    }

    private static void changes(FlickedCrates x, int... due) {
        Checks.due("changes()", x.changes(), due.length);
        for (int i = 0; i < due.length; i++) {
            Checks.due("changed(" + i + ")", x.changed(i), due[i]);
        }
        Checks.due("changed() behind", x.changed(due.length), -1);
        Checks.due("changed(-1)", x.changed(-1), -1);
    }

    private static void discs() {
        String five = "crate 0;sleeve 0 1 0;sleeve 0 1 0;sleeve 0 1 0;sleeve 0 1 0;sleeve 0 1 0;";
        changes(new FlickedCrates());
        changes(Checks.of(five));
        changes(Checks.of(five + "disc 3 1;"), 103);
        // A round of three, and two that changed.
        FlickedCrates x = Checks.of(five + "disc 4 0;disc 1 4;disc 2 3;");
        int[] discs = {4, 0, 3, 2, 1};
        for (int s = 0; s < 5; s++) {
            Checks.due("disc of " + s, x.sleeve(s, 5), discs[s]);
        }
        // 0's disc is in 1, then 1's (from 0, by way of 4) in 4.
        changes(x, 1, 104, 203);
        for (int s = 0; s < 5; s++) {
            Checks.due("disc of " + s + " stays", x.sleeve(s, 5), discs[s]);
        }
        x.change(0, 1);
        changes(x, 104, 203);
        StringBuilder most = new StringBuilder("crate 0;");
        for (int s = 0; s < 24; s++) {
            most.append("sleeve 0 1 0;");
        }
        FlickedCrates all = Checks.of(most.toString());
        for (int s = 1; s < 24; s++) {
            all.change(0, s);
        }
        Checks.due("a round of all", all.changes(), 23);
        Checks.due("the last", all.changed(22), 2223);
        FlickedCrates sold = Checks.of("crate 0;sleeve 0 1 9;sleeve 0 1 0;disc 0 1;looker 0 1 9 9 9;miss 1 0;");
        sold.day(1);
        changes(sold, 1);
    }

    private static void moves(FlickedCrates x, int moves, int stay) {
        Checks.due("moves(0)", x.moves(0), moves);
        Checks.due("moves(1)", x.moves(1), stay);
    }

    private static void dividers() {
        FlickedCrates x = Checks.of("crate 0;crate 1;crate 2;crate 3;crate 4;crate 5;crate 6;crate 7;");
        moves(x, 0, 255);
        x.wander(0, 7);
        moves(x, 1, 254);
        // 1 2 3 4 7 5 6 0: 1 to 6 stay.
        x.wander(7, 4);
        moves(x, 2, 126);
        FlickedCrates turned = Checks.of("crate 0;crate 1;crate 2;");
        turned.wander(2, 0);
        turned.wander(1, 1);
        // 2 1 0: any one stays, the least.
        moves(turned, 2, 1);
        FlickedCrates pair = Checks.of("crate 0;crate 1;crate 2;crate 3;");
        pair.wander(0, 1);
        pair.wander(2, 3);
        // 1 0 3 2: 0 and 2 of all that may stay.
        moves(pair, 2, 5);
        moves(new FlickedCrates(), 0, 0);
        Checks.notFit("moves(2)", x, () -> x.moves(2));
        Checks.notFit("moves(-1)", x, () -> x.moves(-1));
    }

    private static void rests(int n, int h, int c, int v, int many, int first) {
        FlickedCrates x = new FlickedCrates();
        String call = "rests(" + n + ", " + h + ", " + c + ", " + v + ", ";
        Checks.due(call + "0)", x.rests(n, h, c, v, 0), many);
        Checks.due(call + "1)", x.rests(n, h, c, v, 1), first);
    }

    private static void rests() {
        rests(2, 2, 3, 10, 1, 0);
        rests(2, 2, 6, 10, 1, 11);
        // Ahead by one costs 5 and brings 5 more: all but the first alone.
        rests(2, 2, 5, 10, 4, 0);
        // It costs nothing to come first: all at 0.
        rests(4, 4, 0, 1, 1, 0);
        // It costs more than there is to share: all at the last one.
        rests(3, 4, 99, 1, 1, 333);
        rests(4, 2, 99, 999, 1, 0);
        FlickedCrates x = new FlickedCrates();
        Checks.notFit("rests of n 1", x, () -> x.rests(1, 2, 0, 1, 0));
        Checks.notFit("rests of n 5", x, () -> x.rests(5, 2, 0, 1, 0));
        Checks.notFit("rests of h 1", x, () -> x.rests(2, 1, 0, 1, 0));
        Checks.notFit("rests of h 5", x, () -> x.rests(2, 5, 0, 1, 0));
        Checks.notFit("rests of c -1", x, () -> x.rests(2, 2, -1, 1, 0));
        Checks.notFit("rests of c 100", x, () -> x.rests(2, 2, 100, 1, 0));
        Checks.notFit("rests of v 0", x, () -> x.rests(2, 2, 0, 0, 0));
        Checks.notFit("rests of v 1000", x, () -> x.rests(2, 2, 0, 1000, 0));
        Checks.notFit("rests of another what", x, () -> x.rests(2, 2, 0, 1, 2));
        Checks.notFit("rests of what -1", x, () -> x.rests(2, 2, 0, 1, -1));
    }
}
