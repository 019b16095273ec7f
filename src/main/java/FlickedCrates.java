import java.util.NoSuchElementException;

/**
 * A shop of crates in which sleeves are looked through, bought and put back.
 * What each call promises stands in DOC.md; words in capitals there are told in small letters here.
 */
public final class FlickedCrates {
    public static final int NONE = -1;

    private static final int MOST_BYTES = 600;
    private static final int MOST_CLAUSES = 60;
    private static final int MOST_CRATES = 8;
    private static final int MOST_SLEEVES = 24;
    private static final int MOST_LOOKERS = 6;
    private static final int MOST_IMAGES = 3;
    private static final int MOST_PACE = 8;
    private static final int MOST_LETTER = 25;
    private static final int MOST_GOOD = 9;
    private static final int MOST_PRICE = 99;
    private static final int MOST_MONEY = 999;
    private static final int MOST_DAYS = 60;
    private static final int MOST_PUT_BACK = 4;
    private static final int MOST_HIDING = 8;

    // Of a sleeve, as sleeve() numbers them.
    private static final int LETTER = 0;
    private static final int PRICE = 1;
    private static final int GOOD = 2;
    private static final int OWN = 3;
    private static final int SLEEVE_WIDTH = 4;

    // Of a looker, as looker() numbers them.
    private static final int COMES = 0;
    private static final int PACE = 1;
    private static final int WANTS = 2;
    private static final int PAYS = 3;
    private static final int MONEY = 4;
    private static final int LEFT = 5;
    private static final int LOOKER_WIDTH = 6;

    // The weights, as told() and the text have them in a row.
    private static final int BACK_OWN = 0;
    private static final int BACK_BESIDE = 1;
    private static final int BACK_HERE = 2;
    private static final int BACK_ANY = 3;
    private static final int WEIGHTS = 4;

    // The reasons of refusals, as status() numbers them.
    private static final int NO_CRATE = 0;
    private static final int NO_SUCH = 1;
    private static final int NOT_FIT = 2;
    private static final int SOLD = 3;
    private static final int REASONS = 4;

    private static final int FAULT_BASE = 10;

    private final Numbers tape = new Numbers(MOST_BYTES);
    private int tapeBytes = 0;
    private int faultPlace = NONE;
    private final Told told = new Told();
    private final Stock stock = new Stock();
    private final Stock[] album = {new Stock(), new Stock(), new Stock()};
    private int images = 0;
    private final Numbers refused = new Numbers(REASONS);
    private final Reader reader = new Reader(tape);
    private final Day theDay = new Day(told, stock);
    private final Whereabouts whereabouts = new Whereabouts(told, stock);
    private final Basket theBasket = new Basket(told, stock);
    private final Swaps swaps = new Swaps(stock);
    private final Rising rising = new Rising();

    public FlickedCrates() {
        told.clear();
        stock.begin(told);
    }

    // ---- the tape and the shop

    public int feed(int a, int b, int c, int d, int e) {
        if (tapeBytes + 20 > MOST_BYTES) {
            return NONE;
        }
        putOnTape(a);
        putOnTape(b);
        putOnTape(c);
        putOnTape(d);
        putOnTape(e);
        return tapeBytes;
    }

    private void putOnTape(int number) {
        for (int shift = 24; shift >= 0; shift -= 8) {
            tape.put(tapeBytes, (number >>> shift) & 255);
            tapeBytes++;
        }
    }

    public int shop(int n) throws IllegalArgumentException {
        need(n >= 0 && n <= tapeBytes);
        tapeBytes = 0;
        int fault = reader.read(n);
        faultPlace = reader.place;
        if (fault != 0) {
            return fault - FAULT_BASE;
        }
        told.copy(reader.draft);
        stock.begin(told);
        images = 0;
        return told.sleeves;
    }

    public int fault() {
        return faultPlace;
    }

    public int told(int what) throws IllegalArgumentException {
        switch (what) {
            case 0:
                return told.crates;
            case 1:
                return told.sleeves;
            case 2:
                return told.lookers;
            case 3:
                return told.stop;
            default:
                need(what >= 4 && what < 4 + WEIGHTS);
                return told.weights.at(what - 4);
        }
    }

    // ---- what stands and lies where

    public int crate(int crate, int what) throws IndexOutOfBoundsException, IllegalArgumentException {
        needCrate(crate);
        need(what == 0 || what == 1);
        return what == 0 ? told.letters.at(crate) : stock.size(crate);
    }

    public int row(int crate, int i) throws IndexOutOfBoundsException {
        needCrate(crate);
        return stock.inRow(crate, i);
    }

    public int sleeve(int sleeve, int what) throws NoSuchElementException, IllegalArgumentException {
        needSleeve(sleeve);
        need(what >= 0 && what <= 6);
        switch (what) {
            case 4:
                return stock.where.at(sleeve);
            case 5:
                return stock.discs.at(sleeve);
            case 6:
                return kindOf(sleeve);
            default:
                return told.ofSleeve(sleeve, what);
        }
    }

    private int kindOf(int sleeve) {
        if (!stock.lies(sleeve)) {
            return 4;
        }
        if (stock.discs.at(sleeve) != sleeve) {
            return 3;
        }
        return Math.min(2, stock.offOwn(told, sleeve));
    }

    public int looker(int looker, int what) throws NoSuchElementException, IllegalArgumentException {
        needLooker(looker);
        need(what >= 0 && what < LOOKER_WIDTH);
        return told.ofLooker(looker, what);
    }

    public int missed(int pace) throws IllegalArgumentException {
        need(isPace(pace));
        return told.misses.at(pace);
    }

    public int lay(int sleeve, int crate)
            throws IndexOutOfBoundsException, NoSuchElementException, IllegalStateException {
        needCrate(crate);
        needSleeve(sleeve);
        needLying(sleeve);
        int lay = stock.where.at(sleeve);
        stock.putBehind(sleeve, crate);
        return lay;
    }

    public int change(int sleeve, int other) throws NoSuchElementException, IllegalArgumentException {
        needSleeve(sleeve);
        needSleeve(other);
        need(sleeve != other);
        stock.discs.swap(sleeve, other);
        return stock.discs.at(sleeve);
    }

    public int wander(int crate, int to) throws IndexOutOfBoundsException, IllegalArgumentException {
        needCrate(crate);
        need(to >= 0 && to < told.crates);
        int stood = stock.dividers.placeOf(crate);
        stock.dividers.shift(stood, to);
        return stood;
    }

    // ---- days

    public int day(int seed) {
        theDay.go(seed, told.leftBits(), false);
        stock.copy(theDay.stock);
        return theDay.bought.sum();
    }

    public int would(int seed, int what) throws IllegalArgumentException {
        need(what >= 0 && what <= 5);
        theDay.go(seed, told.leftBits(), false);
        switch (what) {
            case 0:
                return theDay.bought.sum();
            case 1:
                return theDay.spent.sum();
            case 2:
                return theDay.waited.sum();
            case 3:
                return theDay.heldUp;
            case 4:
                return theDay.stock.allOff(told);
            default:
                return theDay.lastGone();
        }
    }

    public int buys(int looker, int seed, int what) throws NoSuchElementException, IllegalArgumentException {
        needLooker(looker);
        need(what >= 0 && what <= 3);
        theDay.go(seed, told.leftBits(), false);
        switch (what) {
            case 0:
                return theDay.bought.at(looker);
            case 1:
                return theDay.spent.at(looker);
            case 2:
                return theDay.waited.at(looker);
            default:
                return theDay.gone.at(looker);
        }
    }

    public int then(int sleeve, int seed) throws NoSuchElementException {
        needSleeve(sleeve);
        theDay.go(seed, told.leftBits(), false);
        return theDay.stock.where.at(sleeve);
    }

    // ---- looking for a sleeve

    public long odds(int crate, int sleeve, int k, int what)
            throws IndexOutOfBoundsException, NoSuchElementException, IllegalArgumentException,
            IllegalStateException {
        needCrate(crate);
        needSleeve(sleeve);
        need(k >= 0 && k <= MOST_PUT_BACK);
        need(what == 0 || what == 1);
        needLying(sleeve);
        whereabouts.putBack(sleeve, k);
        return leastTerms(whereabouts.share(crate), whereabouts.whole, what);
    }

    public int hidden(int k) throws IllegalArgumentException {
        need(k >= 0 && k <= MOST_HIDING);
        int bits = 0;
        for (int sleeve = 0; sleeve < told.sleeves; sleeve++) {
            if (stock.lies(sleeve) && !whereabouts.canBe(sleeve, k)) {
                bits |= 1 << sleeve;
            }
        }
        return bits;
    }

    public int order(int sleeve, int k, int f, int i)
            throws NoSuchElementException, IllegalArgumentException, IllegalStateException {
        needSearch(sleeve, k, f, 0);
        if (!told.hasCrate(i)) {
            return NONE;
        }
        whereabouts.rank(sleeve, k, f);
        return whereabouts.ranked.at(i);
    }

    public long mean(int sleeve, int k, int f, int what)
            throws NoSuchElementException, IllegalArgumentException, IllegalStateException {
        needSearch(sleeve, k, f, what);
        whereabouts.rank(sleeve, k, f);
        return leastTerms(whereabouts.sharedSeconds(f), whereabouts.whole, what);
    }

    private void needSearch(int sleeve, int k, int f, int what) {
        needSleeve(sleeve);
        need(k >= 0 && k <= MOST_PUT_BACK);
        need(isPace(f));
        need(what == 0 || what == 1);
        needLying(sleeve);
    }

    // ---- what is best

    public int pace() {
        int best = 1;
        for (int f = 2; f <= MOST_PACE; f++) {
            if (f * (8 - told.misses.at(f)) > best * (8 - told.misses.at(best))) {
                best = f;
            }
        }
        return best;
    }

    public int round(int what) throws IllegalArgumentException {
        need(what == 0 || what == 1);
        int best = 0;
        int fewest = NONE;
        for (int lefts = 0; lefts < 1 << told.lookers; lefts++) {
            theDay.go(0, lefts, true);
            int waited = theDay.waited.sum();
            if (fewest == NONE || waited < fewest) {
                best = lefts;
                fewest = waited;
            }
        }
        return what == 0 ? best : fewest;
    }

    public int basket(int money, int what) throws IllegalArgumentException {
        need(money >= 0 && money <= MOST_MONEY);
        need(what >= 0 && what <= 2);
        int price = theBasket.bestPrice(money);
        switch (what) {
            case 0:
                return theBasket.goods.at(price);
            case 1:
                return price;
            default:
                return theBasket.sets.at(price);
        }
    }

    public int sort() {
        int went = 0;
        for (int sleeve = 0; sleeve < told.sleeves; sleeve++) {
            if (stock.offOwn(told, sleeve) > 0) {
                stock.putBehind(sleeve, told.ofSleeve(sleeve, OWN));
                went++;
            }
        }
        return went;
    }

    public int off() {
        return stock.allOff(told);
    }

    public int often(int b, int w, int d, int what) throws IllegalArgumentException {
        need(b >= 0 && b <= 9999);
        need(w >= 0 && w <= 99);
        need(d >= 0 && d <= 99);
        need(what >= 0 && what <= 2);
        int best = 1;
        for (int n = 2; n <= MOST_DAYS; n++) {
            if (sortingCost(b, w, d, n) * best < sortingCost(b, w, d, best) * n) {
                best = n;
            }
        }
        return what == 0 ? best : (int) leastTerms(sortingCost(b, w, d, best), best, what - 1);
    }

    private static long sortingCost(int b, int w, int d, int n) {
        return (long) b + (long) w * n + (long) d * w * n * (n - 1) / 2;
    }

    // ---- discs and dividers

    public int changes() {
        return swaps.list();
    }

    public int changed(int i) {
        int listed = swaps.list();
        return i >= 0 && i < listed ? swaps.listed.at(i) : NONE;
    }

    public int divider(int place) {
        return told.hasCrate(place) ? stock.dividers.at(place) : NONE;
    }

    public int moves(int what) throws IllegalArgumentException {
        need(what == 0 || what == 1);
        int stay = 0;
        for (int set = 1; set < 1 << told.crates; set++) {
            if (Integer.bitCount(set) > Integer.bitCount(stay) && standByNumber(set)) {
                stay = set;
            }
        }
        return what == 0 ? told.crates - Integer.bitCount(stay) : stay;
    }

    private boolean standByNumber(int set) {
        int last = NONE;
        for (int place = 0; place < told.crates; place++) {
            int divider = stock.dividers.at(place);
            if (hasBit(set, divider)) {
                if (divider < last) {
                    return false;
                }
                last = divider;
            }
        }
        return true;
    }

    public int rests(int n, int h, int c, int v, int what) throws IllegalArgumentException {
        need(n >= 2 && n <= 4);
        need(h >= 2 && h <= 4);
        need(c >= 0 && c <= 99);
        need(v >= 1 && v <= 999);
        need(what == 0 || what == 1);
        rising.begin(n, h, c, v);
        rising.findRests();
        return what == 0 ? rising.rests : rising.first;
    }

    // ---- images and counts

    public int image() {
        Stock image = imageAt(images);
        if (image == null) {
            return -1;
        }
        image.copy(stock);
        images++;
        return images;
    }

    public int restore() {
        Stock image = imageAt(images - 1);
        if (image == null) {
            return -1;
        }
        stock.copy(image);
        images--;
        return images;
    }

    private Stock imageAt(int i) {
        return i >= 0 && i < MOST_IMAGES && i < album.length ? album[i] : null;
    }

    public int status(int what) {
        return what >= 0 && what < REASONS ? refused.at(what) : NONE;
    }

    public int count(int what) {
        switch (what) {
            case 0:
                return images;
            case 1:
                return tapeBytes;
            case 2:
                return stock.sold(told.sleeves);
            default:
                return NONE;
        }
    }

    // ---- refusals

    private void needCrate(int crate) {
        if (!told.hasCrate(crate)) {
            refused.add(NO_CRATE, 1);
            throw new IndexOutOfBoundsException("no such crate");
        }
    }

    private void needSleeve(int sleeve) {
        if (sleeve < 0 || sleeve >= told.sleeves) {
            refused.add(NO_SUCH, 1);
            throw new NoSuchElementException("no such sleeve");
        }
    }

    private void needLooker(int looker) {
        if (looker < 0 || looker >= told.lookers) {
            refused.add(NO_SUCH, 1);
            throw new NoSuchElementException("no such looker");
        }
    }

    private void need(boolean fits) {
        if (!fits) {
            refused.add(NOT_FIT, 1);
            throw new IllegalArgumentException("a number that does not fit");
        }
    }

    private void needLying(int sleeve) {
        if (!stock.lies(sleeve)) {
            refused.add(SOLD, 1);
            throw new IllegalStateException("the sleeve is sold");
        }
    }

    // ---- sums

    private static boolean isPace(int f) {
        return f >= 1 && f <= MOST_PACE;
    }

    private static boolean hasBit(int set, int i) {
        return ((set >> i) & 1) != 0;
    }

    private static int roundedUp(int number, int by) {
        return by > 0 ? (number + by - 1) / by : number;
    }

    private static long leastTerms(long above, long below, int what) {
        long number = what == 0 ? above : below;
        long divisor = commonDivisor(above, below);
        return divisor > 0 ? number / divisor : number;
    }

    private static long commonDivisor(long a, long b) {
        // Two numbers of 63 bits take less than a hundred steps.
        for (int step = 0; step < 100 && b != 0; step++) {
            long rest = a % b;
            a = b;
            b = rest;
        }
        return a;
    }

    /**
     * A row of numbers of one length: beyond its ends it answers 0 and keeps nothing,
     * so that no index can make the machine throw.
     */
    private static final class Numbers {
        private final int[] cells;

        Numbers(int length) {
            cells = new int[length > 0 ? length : 0];
        }

        boolean holds(int i) {
            return i >= 0 && i < cells.length;
        }

        int at(int i) {
            return i >= 0 && i < cells.length ? cells[i] : 0;
        }

        void put(int i, int value) {
            if (i >= 0 && i < cells.length) {
                cells[i] = value;
            }
        }

        void add(int i, int more) {
            put(i, at(i) + more);
        }

        void swap(int i, int j) {
            int value = at(i);
            put(i, at(j));
            put(j, value);
        }

        void fill(int value) {
            for (int i = 0; i < cells.length; i++) {
                cells[i] = value;
            }
        }

        void fillByNumber() {
            for (int i = 0; i < cells.length; i++) {
                cells[i] = i;
            }
        }

        void copy(Numbers other) {
            for (int i = 0; i < cells.length; i++) {
                cells[i] = other.at(i);
            }
        }

        int sum() {
            int sum = 0;
            for (int i = 0; i < cells.length; i++) {
                sum += cells[i];
            }
            return sum;
        }

        int placeOf(int value) {
            for (int i = 0; i < cells.length; i++) {
                if (cells[i] == value) {
                    return i;
                }
            }
            return NONE;
        }

        /** Takes out what stands at one place and puts it at another; what is between moves up. */
        void shift(int from, int to) {
            if (!holds(from) || !holds(to)) {
                return;
            }
            int value = at(from);
            for (int i = from; i < to; i++) {
                put(i, at(i + 1));
            }
            for (int i = from; i > to; i--) {
                put(i, at(i - 1));
            }
            put(to, value);
        }
    }

    /** What the text of a shop tells. */
    private static final class Told {
        int crates;
        int sleeves;
        int lookers;
        int stop;
        final Numbers letters = new Numbers(MOST_CRATES);
        final Numbers ofSleeves = new Numbers(MOST_SLEEVES * SLEEVE_WIDTH);
        final Numbers lying = new Numbers(MOST_SLEEVES);
        final Numbers discs = new Numbers(MOST_SLEEVES);
        final Numbers ofLookers = new Numbers(MOST_LOOKERS * LOOKER_WIDTH);
        final Numbers misses = new Numbers(MOST_PACE + 1);
        final Numbers weights = new Numbers(WEIGHTS);

        void clear() {
            crates = 0;
            sleeves = 0;
            lookers = 0;
            stop = 5;
            letters.fill(0);
            ofSleeves.fill(0);
            lying.fill(NONE);
            discs.fillByNumber();
            ofLookers.fill(0);
            for (int f = 1; f <= MOST_PACE; f++) {
                misses.put(f, f - 1);
            }
            weights.fill(0);
            weights.put(BACK_OWN, 1);
        }

        void copy(Told other) {
            crates = other.crates;
            sleeves = other.sleeves;
            lookers = other.lookers;
            stop = other.stop;
            letters.copy(other.letters);
            ofSleeves.copy(other.ofSleeves);
            lying.copy(other.lying);
            discs.copy(other.discs);
            ofLookers.copy(other.ofLookers);
            misses.copy(other.misses);
            weights.copy(other.weights);
        }

        boolean hasCrate(int crate) {
            return crate >= 0 && crate < crates;
        }

        int ofSleeve(int sleeve, int what) {
            return ofSleeves.at(sleeve * SLEEVE_WIDTH + what);
        }

        int ofLooker(int looker, int what) {
            return ofLookers.at(looker * LOOKER_WIDTH + what);
        }

        void addCrate(int letter) {
            letters.put(crates, letter);
            crates++;
        }

        void addSleeve(int letter, int price, int good) {
            int at = sleeves * SLEEVE_WIDTH;
            int own = ownCrate(letter);
            ofSleeves.put(at + LETTER, letter);
            ofSleeves.put(at + PRICE, price);
            ofSleeves.put(at + GOOD, good);
            ofSleeves.put(at + OWN, own);
            lying.put(sleeves, own);
            sleeves++;
        }

        private int ownCrate(int letter) {
            int own = 0;
            for (int crate = 1; crate < crates; crate++) {
                if (letters.at(crate) <= letter) {
                    own = crate;
                }
            }
            return own;
        }

        void addLooker(int comes, int pace, int wants, int pays, int money) {
            int at = lookers * LOOKER_WIDTH;
            ofLookers.put(at + COMES, comes);
            ofLookers.put(at + PACE, pace);
            ofLookers.put(at + WANTS, wants);
            ofLookers.put(at + PAYS, pays);
            ofLookers.put(at + MONEY, money);
            lookers++;
        }

        void turnLeft(int looker) {
            ofLookers.put(looker * LOOKER_WIDTH + LEFT, 1);
        }

        int leftBits() {
            int bits = 0;
            for (int looker = 0; looker < lookers; looker++) {
                bits |= ofLooker(looker, LEFT) << looker;
            }
            return bits;
        }
    }

    /** What lies where, discs and dividers: what an image keeps. */
    private static final class Stock {
        /** The crate in which a sleeve lies; NONE if it is sold, or if there is no such sleeve. */
        final Numbers where = new Numbers(MOST_SLEEVES);
        /**
         * All sleeves by when they came to where they lie: those of one crate are its row.
         * One line for all crates spares rows that could contradict where.
         */
        final Numbers line = new Numbers(MOST_SLEEVES);
        final Numbers discs = new Numbers(MOST_SLEEVES);
        final Numbers dividers = new Numbers(MOST_CRATES);

        void begin(Told told) {
            where.copy(told.lying);
            line.fillByNumber();
            discs.copy(told.discs);
            dividers.fillByNumber();
        }

        void copy(Stock other) {
            where.copy(other.where);
            line.copy(other.line);
            discs.copy(other.discs);
            dividers.copy(other.dividers);
        }

        boolean lies(int sleeve) {
            return where.at(sleeve) != NONE;
        }

        int size(int crate) {
            int size = 0;
            for (int sleeve = 0; sleeve < MOST_SLEEVES; sleeve++) {
                if (where.at(sleeve) == crate) {
                    size++;
                }
            }
            return size;
        }

        int inRow(int crate, int i) {
            int ahead = 0;
            for (int at = 0; at < MOST_SLEEVES; at++) {
                int sleeve = line.at(at);
                if (where.at(sleeve) == crate) {
                    if (ahead == i) {
                        return sleeve;
                    }
                    ahead++;
                }
            }
            return NONE;
        }

        void putBehind(int sleeve, int crate) {
            line.shift(line.placeOf(sleeve), MOST_SLEEVES - 1);
            where.put(sleeve, crate);
        }

        void sell(int sleeve) {
            where.put(sleeve, NONE);
        }

        int sold(int sleeves) {
            int sold = 0;
            for (int sleeve = 0; sleeve < sleeves; sleeve++) {
                if (!lies(sleeve)) {
                    sold++;
                }
            }
            return sold;
        }

        int offOwn(Told told, int sleeve) {
            return lies(sleeve) ? Math.abs(where.at(sleeve) - told.ofSleeve(sleeve, OWN)) : 0;
        }

        int allOff(Told told) {
            int off = 0;
            for (int sleeve = 0; sleeve < told.sleeves; sleeve++) {
                off += offOwn(told, sleeve);
            }
            return off;
        }
    }

    /** Reads the text of a shop from the tape into a draft, up to its first fault. */
    private static final class Reader {
        private static final int CANNOT_STAND = 1;
        private static final int NO_SUCH_NUMBER = 2;
        private static final int TOO_MANY = 3;
        private static final int CRATE_BEHIND = 4;

        private static final int CRATE = 0;
        private static final int SLEEVE = 1;
        private static final int LIES = 2;
        private static final int DISC = 3;
        private static final int LOOKER = 4;
        private static final int LEFT_WAY = 5;
        private static final int MISS = 6;
        private static final int STOP = 7;
        private static final int BACK = 8;
        private static final int WORDS = 9;

        /** Above every number that fits: longer ones stay here and do not wrap. */
        private static final int TOO_HIGH = 10000;

        final Told draft = new Told();
        int place = NONE;
        private final Numbers tape;
        private int end = 0;
        private int at = 0;
        private int numberPlace = 0;
        private int fault = 0;
        private int clauses = 0;
        private boolean onlyCrates = true;

        Reader(Numbers tape) {
            this.tape = tape;
        }

        /** The fault of the first n bytes of the tape; 0 if they are a shop. */
        int read(int n) {
            end = n;
            at = 0;
            fault = 0;
            place = NONE;
            clauses = 0;
            onlyCrates = true;
            draft.clear();
            skipBlanks();
            // One clause more than there may be: that one is a fault.
            for (int i = 0; i <= MOST_CLAUSES && fault == 0 && at < end; i++) {
                readClause();
                skipBlanks();
            }
            return fault;
        }

        private void readClause() {
            int start = at;
            int clause = readWord();
            int wrong = faultOfWord(clause);
            if (wrong != 0) {
                blame(wrong, start);
                return;
            }
            clauses++;
            if (clause != CRATE) {
                onlyCrates = false;
            }
            readNumbers(clause);
        }

        private int faultOfWord(int clause) {
            if (clause == NONE || (clause != CRATE && draft.crates == 0)) {
                return CANNOT_STAND;
            }
            if (clauses >= MOST_CLAUSES
                    || (clause == CRATE && draft.crates >= MOST_CRATES)
                    || (clause == SLEEVE && draft.sleeves >= MOST_SLEEVES)
                    || (clause == LOOKER && draft.lookers >= MOST_LOOKERS)) {
                return TOO_MANY;
            }
            return clause == CRATE && !onlyCrates ? CRATE_BEHIND : 0;
        }

        private void readNumbers(int clause) {
            switch (clause) {
                case CRATE:
                    readCrate();
                    break;
                case SLEEVE:
                    readSleeve();
                    break;
                case LIES:
                    readLies();
                    break;
                case DISC:
                    readDisc();
                    break;
                case LOOKER:
                    readLooker();
                    break;
                case LEFT_WAY:
                    readLeft();
                    break;
                case MISS:
                    readMiss();
                    break;
                case STOP:
                    readStop();
                    break;
                default:
                    readBack();
            }
        }

        private void readCrate() {
            boolean first = draft.crates == 0;
            int least = first ? 0 : draft.letters.at(draft.crates - 1) + 1;
            int letter = number(least, first ? 0 : MOST_LETTER);
            if (ends()) {
                draft.addCrate(letter);
            }
        }

        private void readSleeve() {
            int letter = number(0, MOST_LETTER);
            int price = number(1, MOST_PRICE);
            int good = number(0, MOST_GOOD);
            if (ends()) {
                draft.addSleeve(letter, price, good);
            }
        }

        private void readLies() {
            int sleeve = number(0, draft.sleeves - 1);
            int crate = number(0, draft.crates - 1);
            if (ends()) {
                draft.lying.put(sleeve, crate);
            }
        }

        private void readDisc() {
            int sleeve = number(0, draft.sleeves - 1);
            int other = number(0, draft.sleeves - 1);
            if (other == sleeve) {
                blame(NO_SUCH_NUMBER, numberPlace);
            }
            if (ends()) {
                draft.discs.swap(sleeve, other);
            }
        }

        private void readLooker() {
            int comes = number(0, 600);
            int pace = number(1, MOST_PACE);
            int wants = number(0, MOST_GOOD);
            int pays = number(0, MOST_PRICE);
            int money = number(0, MOST_MONEY);
            if (ends()) {
                draft.addLooker(comes, pace, wants, pays, money);
            }
        }

        private void readLeft() {
            int looker = number(0, draft.lookers - 1);
            if (ends()) {
                draft.turnLeft(looker);
            }
        }

        private void readMiss() {
            int pace = number(1, MOST_PACE);
            int missed = number(0, 8);
            if (ends()) {
                draft.misses.put(pace, missed);
            }
        }

        private void readStop() {
            int seconds = number(0, 30);
            if (ends()) {
                draft.stop = seconds;
            }
        }

        private void readBack() {
            int own = number(0, 9);
            int beside = number(0, 9);
            int here = number(0, 9);
            int any = number(0, 9);
            if (own + beside + here + any == 0) {
                blame(NO_SUCH_NUMBER, numberPlace);
            }
            if (ends()) {
                draft.weights.put(BACK_OWN, own);
                draft.weights.put(BACK_BESIDE, beside);
                draft.weights.put(BACK_HERE, here);
                draft.weights.put(BACK_ANY, any);
            }
        }

        /** Keeps the first fault alone: the text is read from the left. */
        private void blame(int wrong, int where) {
            if (fault == 0) {
                fault = wrong;
                place = where;
            }
        }

        private int next() {
            return at < end ? tape.at(at) : NONE;
        }

        private void skipBlanks() {
            while (at < end && tape.at(at) == ' ') {
                at++;
            }
        }

        private int readWord() {
            int start = at;
            while (at < end && tape.at(at) >= 'a' && tape.at(at) <= 'z') {
                at++;
            }
            for (int clause = 0; clause < WORDS; clause++) {
                if (stands(start, wordOf(clause))) {
                    return clause;
                }
            }
            return NONE;
        }

        private boolean stands(int start, String word) {
            if (at - start != word.length()) {
                return false;
            }
            for (int i = 0; i < word.length(); i++) {
                if (tape.at(start + i) != word.charAt(i)) {
                    return false;
                }
            }
            return true;
        }

        private static String wordOf(int clause) {
            switch (clause) {
                case CRATE:
                    return "crate";
                case SLEEVE:
                    return "sleeve";
                case LIES:
                    return "lies";
                case DISC:
                    return "disc";
                case LOOKER:
                    return "looker";
                case LEFT_WAY:
                    return "left";
                case MISS:
                    return "miss";
                case STOP:
                    return "stop";
                default:
                    return "back";
            }
        }

        private int number(int least, int most) {
            skipBlanks();
            if (fault != 0) {
                return least;
            }
            numberPlace = at;
            int value = 0;
            while (at < end && tape.at(at) >= '0' && tape.at(at) <= '9') {
                value = Math.min(value * 10 + tape.at(at) - '0', TOO_HIGH);
                at++;
            }
            if (at == numberPlace) {
                blame(CANNOT_STAND, at);
            } else if (value < least || value > most) {
                blame(NO_SUCH_NUMBER, numberPlace);
            }
            return value;
        }

        /** Whether the clause ends as it must, without a fault in it. */
        private boolean ends() {
            skipBlanks();
            if (next() != ';') {
                blame(CANNOT_STAND, at);
            }
            if (fault != 0) {
                return false;
            }
            at++;
            return true;
        }
    }

    /** A day as it goes by from the shop's stock, in a stock of its own. */
    private static final class Day {
        private static final int SECONDS = 3600;
        // Where a looker stands who stands at no crate: never what nextOf() answers for one who does.
        private static final int AWAY = -2;
        private static final int NOT_COME = -3;

        final Stock stock = new Stock();
        final Numbers bought = new Numbers(MOST_LOOKERS);
        final Numbers spent = new Numbers(MOST_LOOKERS);
        final Numbers waited = new Numbers(MOST_LOOKERS);
        final Numbers gone = new Numbers(MOST_LOOKERS);
        int heldUp = 0;
        private final Told told;
        private final Stock before;
        private final Numbers stands = new Numbers(MOST_LOOKERS);
        /** From which second on a looker can go on; of one who has not come, when he comes. */
        private final Numbers done = new Numbers(MOST_LOOKERS);
        private final Numbers held = new Numbers(MOST_SLEEVES);
        private int lefts = 0;
        private int staying = 0;
        private int seed = 0;
        private boolean unseeing = false;
        private boolean moved = false;

        Day(Told told, Stock before) {
            this.told = told;
            this.before = before;
        }

        /** Lets the day go by; which lookers go to the left, and whether nothing is seen, is asked by round(). */
        void go(int fromSeed, int goingLeft, boolean seesNothing) {
            seed = fromSeed;
            lefts = goingLeft;
            unseeing = seesNothing;
            begin();
            int now = 0;
            while (now < SECONDS && staying > 0) {
                moved = false;
                for (int looker = 0; looker < told.lookers; looker++) {
                    turn(looker, now);
                }
                int next = now + 1;
                if (!moved) {
                    next = Math.max(next, nextDone(now));
                    waitOn(now, next - now - 1);
                }
                now = next;
            }
        }

        /**
         * When the next one is done. Behind a second in which nobody moved all are alike until then,
         * so that they need not be gone through one by one.
         */
        private int nextDone(int now) {
            int next = SECONDS;
            for (int looker = 0; looker < told.lookers; looker++) {
                int doneBy = done.at(looker);
                if (stands.at(looker) != AWAY && doneBy > now) {
                    next = Math.min(next, doneBy);
                }
            }
            return next;
        }

        private void waitOn(int now, int seconds) {
            for (int looker = 0; looker < told.lookers; looker++) {
                if (stands.at(looker) != AWAY && done.at(looker) <= now) {
                    waited.add(looker, seconds);
                }
            }
        }

        private void begin() {
            stock.copy(before);
            bought.fill(0);
            spent.fill(0);
            waited.fill(0);
            gone.fill(NONE);
            heldUp = 0;
            stands.fill(NOT_COME);
            for (int looker = 0; looker < told.lookers; looker++) {
                done.put(looker, told.ofLooker(looker, COMES));
            }
            staying = told.lookers;
        }

        /** The second in which the last one is gone; NONE if one is still here. */
        int lastGone() {
            if (staying > 0) {
                return NONE;
            }
            int last = 0;
            for (int looker = 0; looker < told.lookers; looker++) {
                last = Math.max(last, gone.at(looker));
            }
            return last;
        }

        private void turn(int looker, int now) {
            int stood = stands.at(looker);
            if (stood == AWAY || done.at(looker) > now) {
                return;
            }
            int next = nextOf(looker);
            if (!told.hasCrate(next)) {
                leave(looker, now);
                return;
            }
            int other = whoStandsAt(next);
            if (other == NONE) {
                come(looker, next, now);
            } else if (done.at(other) <= now && nextOf(other) == stood) {
                come(looker, next, now);
                come(other, stood, now);
            } else {
                waited.add(looker, 1);
            }
        }

        private int nextOf(int looker) {
            boolean left = hasBit(lefts, looker);
            int stood = stands.at(looker);
            if (stood == NOT_COME) {
                return left ? told.crates - 1 : 0;
            }
            return left ? stood - 1 : stood + 1;
        }

        private int whoStandsAt(int crate) {
            for (int looker = 0; looker < told.lookers; looker++) {
                if (stands.at(looker) == crate) {
                    return looker;
                }
            }
            return NONE;
        }

        private void leave(int looker, int now) {
            stands.put(looker, AWAY);
            gone.put(looker, now);
            staying--;
            moved = true;
        }

        private void come(int looker, int crate, int now) {
            stands.put(looker, crate);
            moved = true;
            int seconds = roundedUp(stock.size(crate), told.ofLooker(looker, PACE));
            if (!unseeing) {
                seconds += told.stop * goThrough(looker, crate);
            }
            done.put(looker, now + seconds);
        }

        /** How many are held up. */
        private int goThrough(int looker, int crate) {
            int up = 0;
            int toPutBack = 0;
            for (int i = 0; i < MOST_SLEEVES; i++) {
                int sleeve = stock.line.at(i);
                if (stock.where.at(sleeve) == crate && holdsUp(looker, sleeve)) {
                    up++;
                    if (!buysIt(looker, sleeve)) {
                        held.put(toPutBack, sleeve);
                        toPutBack++;
                    }
                }
            }
            for (int i = 0; i < toPutBack; i++) {
                int sleeve = held.at(i);
                stock.putBehind(sleeve, drawnCrate(sleeve, crate));
            }
            heldUp += up;
            return up;
        }

        private boolean holdsUp(int looker, int sleeve) {
            boolean seen = draw(8) >= told.misses.at(told.ofLooker(looker, PACE));
            return seen && told.ofSleeve(sleeve, GOOD) >= told.ofLooker(looker, WANTS);
        }

        private boolean buysIt(int looker, int sleeve) {
            int price = told.ofSleeve(sleeve, PRICE);
            int has = told.ofLooker(looker, MONEY) - spent.at(looker);
            if (price > told.ofLooker(looker, PAYS) || price > has) {
                return false;
            }
            stock.sell(sleeve);
            bought.add(looker, 1);
            spent.add(looker, price);
            return true;
        }

        private int drawnCrate(int sleeve, int crate) {
            int drawn = draw(told.weights.sum());
            int below = told.weights.at(BACK_OWN);
            if (drawn < below) {
                return told.ofSleeve(sleeve, OWN);
            }
            below += told.weights.at(BACK_BESIDE);
            if (drawn < below) {
                int beside = draw(2) == 0 ? crate - 1 : crate + 1;
                return told.hasCrate(beside) ? beside : crate;
            }
            below += told.weights.at(BACK_HERE);
            return drawn < below ? crate : draw(told.crates);
        }

        private int draw(int n) {
            seed = seed * 1103515245 + 12345;
            int bits = (seed >>> 16) & 32767;
            return n > 0 ? bits % n : 0;
        }
    }

    /** Where a sleeve is after it has been put back, and how to look for it. */
    private static final class Whereabouts {
        /** The whole of which the crates have shares: at most (2 * 36 * 8) to the 4th, far inside a long. */
        long whole = 1;
        final Numbers ranked = new Numbers(MOST_CRATES);
        private final Told told;
        private final Stock stock;
        private final long[] shares = new long[MOST_CRATES];
        private final long[] before = new long[MOST_CRATES];

        Whereabouts(Told told, Stock stock) {
            this.told = told;
            this.stock = stock;
        }

        long share(int crate) {
            return crate >= 0 && crate < shares.length ? shares[crate] : 0;
        }

        private void give(int crate, long more) {
            if (crate >= 0 && crate < shares.length) {
                shares[crate] += more;
            }
        }

        void putBack(int sleeve, int k) {
            clearShares();
            whole = 1;
            give(stock.where.at(sleeve), 1);
            for (int times = 0; times < k; times++) {
                putBackOnce(told.ofSleeve(sleeve, OWN));
            }
        }

        private void clearShares() {
            for (int crate = 0; crate < shares.length; crate++) {
                shares[crate] = 0;
            }
        }

        private void putBackOnce(int own) {
            for (int crate = 0; crate < before.length; crate++) {
                before[crate] = share(crate);
            }
            clearShares();
            for (int crate = 0; crate < before.length; crate++) {
                if (before[crate] != 0) {
                    handOn(crate, own, before[crate]);
                }
            }
            whole *= 2L * told.crates * told.weights.sum();
        }

        /** Each share becomes as many as weights, halves and crates make together, so that all stay whole. */
        private void handOn(int crate, int own, long share) {
            long half = share * told.crates;
            give(own, 2 * half * told.weights.at(BACK_OWN));
            give(besideOrHere(crate, -1), half * told.weights.at(BACK_BESIDE));
            give(besideOrHere(crate, 1), half * told.weights.at(BACK_BESIDE));
            give(crate, 2 * half * told.weights.at(BACK_HERE));
            for (int any = 0; any < told.crates; any++) {
                give(any, 2 * share * told.weights.at(BACK_ANY));
            }
        }

        private int besideOrHere(int crate, int way) {
            return told.hasCrate(crate + way) ? crate + way : crate;
        }

        /** Whether a sleeve, put back k times or fewer from its own crate, can be where it lies. */
        boolean canBe(int sleeve, int k) {
            int reached = 1 << told.ofSleeve(sleeve, OWN);
            for (int times = 0; times < k; times++) {
                reached = reachedFrom(reached);
            }
            return hasBit(reached, stock.where.at(sleeve));
        }

        /** The crates of a set and those reached from them; back to its own, or to this one, is in the set already. */
        private int reachedFrom(int set) {
            if (told.weights.at(BACK_ANY) > 0) {
                return (1 << told.crates) - 1;
            }
            int reached = set;
            if (told.weights.at(BACK_BESIDE) > 0) {
                for (int crate = 0; crate < told.crates; crate++) {
                    if (hasBit(set, crate)) {
                        reached |= (1 << besideOrHere(crate, -1)) | (1 << besideOrHere(crate, 1));
                    }
                }
            }
            return reached;
        }

        private int secondsOf(int crate, int f) {
            return roundedUp(stock.size(crate) + 1, f);
        }

        /** Puts the crates in the order in which they are gone through. */
        void rank(int sleeve, int k, int f) {
            putBack(sleeve, k);
            int taken = 0;
            for (int i = 0; i < told.crates; i++) {
                int best = bestBut(taken, f);
                ranked.put(i, best);
                taken |= 1 << best;
            }
        }

        private int bestBut(int taken, int f) {
            int best = NONE;
            for (int crate = 0; crate < told.crates; crate++) {
                if (!hasBit(taken, crate) && (best == NONE || isAhead(crate, best, f))) {
                    best = crate;
                }
            }
            return best;
        }

        private boolean isAhead(int crate, int other, int f) {
            return share(crate) * secondsOf(other, f) > share(other) * secondsOf(crate, f);
        }

        /** The shares times the seconds till their crates are gone through, after rank(). */
        long sharedSeconds(int f) {
            long together = 0;
            long seconds = 0;
            for (int i = 0; i < told.crates; i++) {
                int crate = ranked.at(i);
                seconds += secondsOf(crate, f);
                together += share(crate) * seconds;
            }
            return together;
        }
    }

    /** The sleeves that are best for so much money. */
    private static final class Basket {
        /** By what sleeves cost together: the most good for just so much; NONE if none cost that. */
        final Numbers goods = new Numbers(MOST_MONEY + 1);
        /** By the same: the least set of sleeves of that good. */
        final Numbers sets = new Numbers(MOST_MONEY + 1);
        private final Told told;
        private final Stock stock;

        Basket(Told told, Stock stock) {
            this.told = told;
            this.stock = stock;
        }

        int bestPrice(int money) {
            goods.fill(NONE);
            sets.fill(0);
            goods.put(0, 0);
            int together = 0;
            for (int sleeve = 0; sleeve < told.sleeves; sleeve++) {
                if (stock.lies(sleeve)) {
                    together = Math.min(money, together + told.ofSleeve(sleeve, PRICE));
                    offer(sleeve, together);
                }
            }
            int best = 0;
            for (int price = 1; price <= together; price++) {
                if (goods.at(price) > goods.at(best)) {
                    best = price;
                }
            }
            return best;
        }

        /** A set with this sleeve is above all sets of those ahead, so that it must be better, not alike. */
        private void offer(int sleeve, int most) {
            int cost = told.ofSleeve(sleeve, PRICE);
            int good = told.ofSleeve(sleeve, GOOD);
            for (int price = most; price >= cost; price--) {
                int rest = price - cost;
                if (goods.at(rest) != NONE && goods.at(rest) + good > goods.at(price)) {
                    goods.put(price, goods.at(rest) + good);
                    sets.put(price, sets.at(rest) | (1 << sleeve));
                }
            }
        }
    }

    /** The changes of discs that bring all into their own sleeves. */
    private static final class Swaps {
        /** Each as changed() tells it. */
        final Numbers listed = new Numbers(MOST_SLEEVES);
        private final Stock stock;
        private final Numbers discs = new Numbers(MOST_SLEEVES);

        Swaps(Stock stock) {
            this.stock = stock;
        }

        /** How many are listed. */
        int list() {
            discs.copy(stock.discs);
            int count = 0;
            for (int sleeve = 0; sleeve < MOST_SLEEVES; sleeve++) {
                if (discs.at(sleeve) != sleeve) {
                    int other = discs.placeOf(sleeve);
                    discs.swap(sleeve, other);
                    listed.put(count, 100 * sleeve + other);
                    count++;
                }
            }
            return count;
        }
    }

    /** The game of getting up. */
    private static final class Rising {
        /** What 1 to 4 can share alike without a rest. */
        private static final int PARTS = 12;

        int rests = 0;
        int first = NONE;
        private int players = 0;
        private int hours = 0;
        private int cost = 0;
        private int value = 0;
        private final Numbers chosen = new Numbers(4);

        void begin(int n, int h, int c, int v) {
            players = n;
            hours = h;
            cost = c;
            value = v;
            rests = 0;
            first = NONE;
        }

        void findRests() {
            int rows = 1;
            for (int who = 0; who < players; who++) {
                rows *= hours;
            }
            for (int row = 0; row < rows; row++) {
                choose(row);
                if (isRest()) {
                    rests++;
                    if (first == NONE) {
                        first = digits();
                    }
                }
            }
        }

        private void choose(int row) {
            int left = row;
            for (int who = players - 1; who >= 0; who--) {
                chosen.put(who, hours > 0 ? left % hours : 0);
                left = hours > 0 ? left / hours : 0;
            }
        }

        private int digits() {
            int digits = 0;
            for (int who = 0; who < players; who++) {
                digits = digits * 10 + chosen.at(who);
            }
            return digits;
        }

        private boolean isRest() {
            for (int who = 0; who < players; who++) {
                if (wouldChange(who)) {
                    return false;
                }
            }
            return true;
        }

        private boolean wouldChange(int who) {
            int hour = chosen.at(who);
            int gain = gainOf(who);
            boolean more = false;
            for (int another = 0; another < hours; another++) {
                chosen.put(who, another);
                if (gainOf(who) > gain) {
                    more = true;
                }
            }
            chosen.put(who, hour);
            return more;
        }

        private int gainOf(int who) {
            int hour = chosen.at(who);
            int sharers = 0;
            for (int other = 0; other < players; other++) {
                if (chosen.at(other) < hour) {
                    return -PARTS * cost * (hours - 1 - hour);
                }
                if (chosen.at(other) == hour) {
                    sharers++;
                }
            }
            int share = sharers > 0 ? PARTS * value / sharers : 0;
            return share - PARTS * cost * (hours - 1 - hour);
        }
    }
}
