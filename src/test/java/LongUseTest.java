import java.lang.management.ManagementFactory;
import java.util.ArrayList;

/** "An object is used for at most 512 calls after it has been made": the last of them are answered as the first ones are. */
public final class LongUseTest {
    private static final int CALLS = 512;
    /** Calls that made rows of their own would need many times as much. */
    private static final long FEW_BYTES = 100_000;

    public static void main(String[] args) {
        manyDays();
        manyRefusals();
        manyShops();
        manyImages();
        manyLaid();
        fullTapes();
        manyQuestions();
        Checks.end();
    }

    private static int made;

    private static FlickedCrates begun(String text, int sleeves) {
        FlickedCrates x = new FlickedCrates();
        Checks.due("shop of " + text, Checks.shop(x, text), sleeves);
        made = (text.length() + 19) / 20 + 1;
        return x;
    }

    private static void used(String what) {
        Checks.due(what + ": calls made", made, CALLS);
    }

    private static final int[] SPECIAL = {3, 5, 7, 11, 13};

    /** Full rows, six lookers, some hundred days: what lies where is as the twin has it. */
    private static void manyDays() {
        Twin twin = new Twin();
        StringBuilder text = new StringBuilder();
        for (int c = 0; c < 8; c++) {
            text.append("crate ").append(3 * c).append(';');
            twin.letters.add(3 * c);
            twin.rows.add(new ArrayList<>());
            twin.dividers.add(c);
        }
        for (int s = 0; s < 24; s++) {
            int[] told = {s, 1 + s * 4, SPECIAL[s % 5] % 10};
            text.append("sleeve ").append(told[0]).append(' ').append(told[1]).append(' ').append(told[2]).append(';');
            twin.sleeves.add(told);
            twin.own.add(s / 3);
            twin.discs.add(s);
            twin.rows.get(s / 3).add(s);
        }
        for (int k = 0; k < 6; k++) {
            Twin.Looker l = new Twin.Looker();
            l.t = 2 * k;
            l.f = k + 1;
            l.w = k;
            l.p = k == 5 ? 6 : 0;
            l.m = 5;
            l.left = k % 2 == 1;
            text.append("looker ").append(l.t).append(' ').append(l.f).append(' ').append(l.w).append(' ').append(l.p).append(" 5;");
            text.append(l.left ? "left " + k + ";" : "");
            twin.lookers.add(l);
        }
        text.append("stop 2;back 1 4 2 3;");
        twin.stop = 2;
        twin.back = new int[] {1, 4, 2, 3};
        FlickedCrates x = begun(text.toString(), 24);
        int sold = 0;
        for (int day = 0; made < CALLS - 41; day++) {
            int seed = day * 1000003 + SPECIAL[day % 5];
            Twin next = twin.copy();
            next.run(seed);
            Checks.due("day " + day, x.day(seed), next.bought());
            made++;
            sold += next.bought();
            twin.rows = next.rows;
        }
        for (int c = 0; c < 8; c++) {
            int[] row = twin.rows.get(c).stream().mapToInt(i -> i).toArray();
            Checks.row("behind all days", x, c, row);
            made += 2 + row.length;
        }
        made += sold;
        Checks.due("sold in all", x.count(2), sold);
        made++;
        used("days");
    }

    /** Every refusal is counted, each by its reason. */
    private static void manyRefusals() {
        FlickedCrates x = begun("crate 0;sleeve 0 1 9;looker 0 1 0 9 9;miss 1 0;", 1);
        Checks.due("one is sold", x.day(0), 1);
        made++;
        int[] due = new int[4];
        for (int i = 0; made < CALLS - 4; i++) {
            int reason = i % 7 % 4;
            due[reason]++;
            made++;
            String got = "nothing";
            try {
                refusedCall(x, reason);
            } catch (RuntimeException e) {
                got = e.getClass().getName();
            }
            Checks.due("refused for reason " + reason + ", threw " + got, got.equals(Checks.REASONS[reason].getName()) ? 1 : 0, 1);
        }
        for (int reason = 0; reason < 4; reason++) {
            Checks.due("status(" + reason + ")", x.status(reason), due[reason]);
            made++;
        }
        used("refusals");
    }

    private static void refusedCall(FlickedCrates x, int reason) {
        switch (reason) {
            case 0:
                x.row(1, 0);
                break;
            case 1:
                x.then(1, 0);
                break;
            case 2:
                x.told(-1);
                break;
            default:
                x.lay(0, 0);
        }
    }

    /** Shops and faults by turns: each fault leaves the shop ahead of it, each shop is told anew. */
    private static void manyShops() {
        FlickedCrates x = new FlickedCrates();
        made = 0;
        int stop = 5;
        while (made < CALLS - 4) {
            int next = made / 4 % 31;
            String text = "crate 0;stop " + next + ";";
            Checks.due("shop", Checks.shop(x, text), 0);
            stop = next;
            Checks.due("fault", Checks.shop(x, "crate 0;stop 31;"), -8);
            made += 4;
        }
        Checks.due("stop", x.told(3), stop);
        Checks.due("fault", x.fault(), 13);
        Checks.due("tape", x.count(1), 0);
        Checks.due("images", x.count(0), 0);
        made += 4;
        used("shops");
    }

    private static void manyImages() {
        FlickedCrates x = begun("crate 0;crate 1;crate 2;sleeve 0 1 0;", 1);
        int at = 0;
        while (made < CALLS - 6) {
            Checks.due("lay", x.lay(0, made % 3), at);
            at = made % 3;
            Checks.due("image", x.image(), 1);
            Checks.due("lay", x.lay(0, (at + 1) % 3), at);
            Checks.due("restore", x.restore(), 0);
            made += 4;
        }
        while (made < CALLS - 1) {
            Checks.due("none is left", x.restore(), -1);
            made++;
        }
        Checks.due("where", x.sleeve(0, 4), at);
        made++;
        used("images");
    }

    /** The line of what lies where does not run out of places. */
    private static void manyLaid() {
        FlickedCrates x = begun("crate 0;crate 1;" + "sleeve 0 1 0;".repeat(24), 24);
        int[] where = new int[24];
        while (made < CALLS - 27) {
            int sleeve = made * 7 % 24;
            int to = made % 5 % 2;
            Checks.due("lay", x.lay(sleeve, to), where[sleeve]);
            where[sleeve] = to;
            made++;
        }
        for (int s = 23; s >= 0; s--) {
            x.lay(s, 1);
            made++;
        }
        Checks.due("the first", x.row(1, 0), 23);
        Checks.due("the last", x.row(1, 23), 0);
        Checks.due("none", x.row(1, 24), -1);
        made += 3;
        used("laid");
    }

    /** A tape that is full takes nothing more, however often, and may be emptied and filled again. */
    private static void fullTapes() {
        FlickedCrates x = new FlickedCrates();
        made = 0;
        for (int round = 0; round < 15; round++) {
            for (int i = 1; i <= 30; i++) {
                Checks.due("feed", x.feed(0x20202020, 0x20202020, 0x20202020, 0x20202020, 0x20202020), 20 * i);
            }
            Checks.due("full", x.feed(0, 0, 0, 0, 0), -1);
            Checks.due("full", x.count(1), 600);
            Checks.due("blanks", x.shop(600), 0);
            made += 33;
        }
        while (made < CALLS) {
            Checks.due("feed", x.feed(0, 0, 0, 0, 0), 20 * (made - 15 * 33 + 1));
            made++;
        }
        used("tapes");
    }

    /** The dearest questions: the same answers each time, and nothing made by them ("make rows in constructors"). */
    private static void manyQuestions() {
        StringBuilder text = new StringBuilder("crate 0;crate 3;crate 9;crate 12;");
        for (int s = 0; s < 24; s++) {
            text.append("sleeve ").append(s).append(' ').append(1 + s * 4).append(' ').append(s % 10).append(';');
        }
        for (int k = 0; k < 6; k++) {
            text.append("looker 0 1 0 ").append(k).append(" 9;");
        }
        FlickedCrates x = begun(text + "back 1 2 3 4;", 24);
        long[] first = new long[8];
        for (int i = 0; i < first.length; i++) {
            first[i] = question(x, i);
        }
        com.sun.management.ThreadMXBean room = (com.sun.management.ThreadMXBean) ManagementFactory.getThreadMXBean();
        long me = Thread.currentThread().getId();
        int wrong = 0;
        room.getThreadAllocatedBytes(me);
        long before = room.getThreadAllocatedBytes(me);
        for (int i = 0; i < 320; i++) {
            wrong += question(x, i % 8) == first[i % 8] ? 0 : 1;
        }
        long bytes = room.getThreadAllocatedBytes(me) - before;
        Checks.due("answers that changed", wrong, 0);
        Checks.due("questions make no more than a few bytes: " + bytes, bytes <= FEW_BYTES ? 1 : 0, 1);
    }

    private static long question(FlickedCrates x, int which) {
        switch (which) {
            case 0:
                return x.round(1);
            case 1:
                return x.basket(999, 2);
            case 2:
                return x.mean(5, 4, 3, 0);
            case 3:
                return x.rests(4, 4, 7, 90, 0);
            case 4:
                return x.would(77, 5);
            case 5:
                return x.odds(2, 23, 4, 1);
            case 6:
                return x.hidden(8) + x.moves(1) + x.changed(3) + x.often(900, 3, 4, 1);
            default:
                return x.order(0, 4, 8, 3);
        }
    }
}
