/** Promises 33 to 36: image, restore, status, count. */
public final class ImagesTest {
    private static final String TEXT = "crate 0;crate 5;sleeve 0 1 9;sleeve 0 1 0;sleeve 7 1 0;looker 0 1 9 9 9;miss 1 0;";

    public static void main(String[] args) {
        images();
        statuses();
        counts();
        Checks.end();
    }

    private static void images() {
        FlickedCrates x = Checks.of(TEXT);
        Checks.due("no image", x.restore(), -1);
        Checks.due("image", x.image(), 1);
        x.lay(0, 0);
        x.change(0, 2);
        x.wander(0, 1);
        Checks.due("image", x.image(), 2);
        x.day(1);
        Checks.due("image", x.image(), 3);
        Checks.due("a fourth", x.image(), -1);
        Checks.due("images", x.count(0), 3);
        x.sort();
        x.lay(1, 1);
        x.change(0, 1);
        x.wander(0, 0);
        Checks.due("restore", x.restore(), 2);
        Checks.row("third", x, 0, 1);
        Checks.row("third", x, 1, 2);
        Checks.due("sold in the third", x.count(2), 1);
        Checks.due("divider of the third", x.divider(0), 1);
        Checks.due("disc of the third", x.sleeve(0, 5), 2);
        Checks.due("restore", x.restore(), 1);
        Checks.row("second", x, 0, 1, 0);
        Checks.due("sold in the second", x.count(2), 0);
        Checks.due("disc of the second", x.sleeve(0, 5), 2);
        Checks.due("divider of the second", x.divider(0), 1);
        Checks.due("image again", x.image(), 2);
        Checks.due("restore", x.restore(), 1);
        Checks.row("second again", x, 0, 1, 0);
        Checks.due("restore", x.restore(), 0);
        Checks.row("first", x, 0, 0, 1);
        Checks.due("disc of the first", x.sleeve(0, 5), 0);
        Checks.due("divider of the first", x.divider(0), 0);
        Checks.due("none left", x.restore(), -1);
        Checks.row("stays", x, 0, 0, 1);
        x.image();
        Checks.shop(x, TEXT);
        Checks.due("a new shop has none", x.restore(), -1);
    }

    private static void statuses() {
        FlickedCrates x = Checks.of(TEXT);
        x.image();
        Checks.noCrate("one", x, () -> x.row(9, 0));
        Checks.noSuch("one", x, () -> x.then(9, 0));
        Checks.notFit("one", x, () -> x.told(9));
        x.day(1);
        Checks.sold("one", x, () -> x.lay(0, 0));
        Checks.sold("two", x, () -> x.lay(0, 0));
        x.restore();
        int[] due = {1, 1, 1, 2};
        for (int what = 0; what < 4; what++) {
            Checks.due("restore() leaves status(" + what + ")", x.status(what), due[what]);
        }
        Checks.shop(x, TEXT);
        Checks.shop(x, "!");
        x.feed(1, 1, 1, 1, 1);
        x.restore();
        for (int what = 0; what < 4; what++) {
            Checks.due("shop() leaves status(" + what + ")", x.status(what), due[what]);
        }
        Checks.due("status(4)", x.status(4), -1);
        Checks.due("status(-1)", x.status(-1), -1);
        Checks.due("status(MIN)", x.status(Integer.MIN_VALUE), -1);
    }

    private static void counts() {
        FlickedCrates x = Checks.of(TEXT);
        Checks.due("images", x.count(0), 0);
        x.image();
        x.image();
        x.feed(0, 0, 0, 0, 0);
        x.day(1);
        Checks.due("images", x.count(0), 2);
        Checks.due("bytes", x.count(1), 20);
        Checks.due("sold", x.count(2), 1);
        Checks.due("count(3)", x.count(3), -1);
        Checks.due("count(-1)", x.count(-1), -1);
        Checks.shop(x, "");
        x.shop(0);
        Checks.due("none sold of none", x.count(2), 0);
    }
}
