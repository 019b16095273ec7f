import java.math.BigInteger;
import java.util.ArrayList;
import java.util.List;

/** The shop told once more, in the plainest way there is, to compare the class with. */
final class Twin {
    static final class Looker {
        int t, f, w, p, m;
        boolean left;
        Integer at;
        int done, money, bought, spent, waited;
        int gone = -1;
        boolean away;

        int first(int crates) {
            return left ? crates - 1 : 0;
        }

        int next() {
            return left ? at - 1 : at + 1;
        }
    }

    List<Integer> letters = new ArrayList<>();
    List<int[]> sleeves = new ArrayList<>();
    List<Integer> own = new ArrayList<>();
    List<List<Integer>> rows = new ArrayList<>();
    List<Integer> discs = new ArrayList<>();
    List<Integer> dividers = new ArrayList<>();
    List<Looker> lookers = new ArrayList<>();
    int[] miss = {0, 0, 1, 2, 3, 4, 5, 6, 7};
    int stop = 5;
    int[] back = {1, 0, 0, 0};
    List<Twin> images = new ArrayList<>();

    /** A copy of what an image keeps; what is told is shared. */
    Twin copy() {
        Twin c = new Twin();
        c.letters = letters;
        c.sleeves = sleeves;
        c.own = own;
        for (List<Integer> row : rows) {
            c.rows.add(new ArrayList<>(row));
        }
        c.discs = new ArrayList<>(discs);
        c.dividers = new ArrayList<>(dividers);
        for (Looker k : lookers) {
            Looker n = new Looker();
            n.t = k.t;
            n.f = k.f;
            n.w = k.w;
            n.p = k.p;
            n.m = k.m;
            n.left = k.left;
            n.money = k.m;
            c.lookers.add(n);
        }
        c.miss = miss;
        c.stop = stop;
        c.back = back;
        c.images = images;
        return c;
    }

    int where(int sleeve) {
        for (int c = 0; c < rows.size(); c++) {
            if (rows.get(c).contains(sleeve)) {
                return c;
            }
        }
        return -1;
    }

    int kind(int sleeve) {
        if (where(sleeve) < 0) {
            return 4;
        }
        if (discs.get(sleeve) != sleeve) {
            return 3;
        }
        int off = Math.abs(where(sleeve) - own.get(sleeve));
        return off > 1 ? 2 : off;
    }

    void lay(int sleeve, int crate) {
        for (List<Integer> row : rows) {
            row.remove((Integer) sleeve);
        }
        rows.get(crate).add(sleeve);
    }

    int off() {
        int off = 0;
        for (int c = 0; c < rows.size(); c++) {
            for (int s : rows.get(c)) {
                off += Math.abs(c - own.get(s));
            }
        }
        return off;
    }

    int sort() {
        int went = 0;
        for (int s = 0; s < sleeves.size(); s++) {
            if (where(s) >= 0 && where(s) != own.get(s)) {
                lay(s, own.get(s));
                went++;
            }
        }
        return went;
    }

    // ---- a day; it is run on a copy

    private long seed;
    boolean blind;
    int held;

    private int draw(int n) {
        seed = (seed * 1103515245L + 12345L) & 0xFFFFFFFFL;
        return (int) ((seed >> 16 & 0x7FFF) % n);
    }

    void run(int from) {
        seed = from & 0xFFFFFFFFL;
        for (int now = 0; now <= 3599; now++) {
            for (Looker k : lookers) {
                if (k.away) {
                    continue;
                }
                if (k.at != null && k.done <= now) {
                    if (k.next() < 0 || k.next() >= rows.size()) {
                        k.away = true;
                        k.at = null;
                        k.gone = now;
                        continue;
                    }
                    Looker o = at(k.next());
                    if (o == null) {
                        come(k, k.next(), now);
                    } else if (o.done <= now && o.next() == k.at) {
                        int mine = k.at;
                        int his = o.at;
                        o.at = null;
                        come(k, his, now);
                        come(o, mine, now);
                    } else {
                        k.waited++;
                    }
                } else if (k.at == null && k.t <= now) {
                    if (at(k.first(rows.size())) == null) {
                        come(k, k.first(rows.size()), now);
                    } else {
                        k.waited++;
                    }
                }
            }
        }
    }

    private Looker at(int crate) {
        for (Looker k : lookers) {
            if (k.at != null && k.at == crate) {
                return k;
            }
        }
        return null;
    }

    private void come(Looker k, int crate, int now) {
        k.at = crate;
        List<Integer> row = rows.get(crate);
        int size = row.size();
        int up = 0;
        List<Integer> putBack = new ArrayList<>();
        if (!blind) {
            for (int s : new ArrayList<>(row)) {
                if (draw(8) < miss[k.f] || sleeves.get(s)[2] < k.w) {
                    continue;
                }
                up++;
                int price = sleeves.get(s)[1];
                if (price <= k.p && price <= k.money) {
                    k.money -= price;
                    k.spent += price;
                    k.bought++;
                    row.remove((Integer) s);
                } else {
                    putBack.add(s);
                }
            }
            for (int s : putBack) {
                lay(s, drawn(s, crate));
            }
        }
        held += up;
        k.done = now + (int) Math.ceil((double) size / k.f) + up * stop;
    }

    private int drawn(int s, int crate) {
        int d = draw(back[0] + back[1] + back[2] + back[3]);
        if (d < back[0]) {
            return own.get(s);
        }
        if (d < back[0] + back[1]) {
            int to = draw(2) == 0 ? crate - 1 : crate + 1;
            return to < 0 || to >= rows.size() ? crate : to;
        }
        if (d < back[0] + back[1] + back[2]) {
            return crate;
        }
        return draw(rows.size());
    }

    int bought() {
        return lookers.stream().mapToInt(k -> k.bought).sum();
    }

    int spent() {
        return lookers.stream().mapToInt(k -> k.spent).sum();
    }

    int waited() {
        return lookers.stream().mapToInt(k -> k.waited).sum();
    }

    int last() {
        return lookers.stream().allMatch(k -> k.away) ? lookers.stream().mapToInt(k -> k.gone).max().orElse(0) : -1;
    }

    // ---- odds as fractions

    record Fraction(BigInteger above, BigInteger below) {
        static Fraction of(long a, long b) {
            return new Fraction(BigInteger.valueOf(a), BigInteger.valueOf(b)).least();
        }

        Fraction least() {
            BigInteger g = above.gcd(below);
            return new Fraction(above.divide(g), below.divide(g));
        }

        Fraction plus(Fraction o) {
            return new Fraction(above.multiply(o.below).add(o.above.multiply(below)), below.multiply(o.below)).least();
        }

        Fraction times(Fraction o) {
            return new Fraction(above.multiply(o.above), below.multiply(o.below)).least();
        }

        int compare(Fraction o) {
            return above.multiply(o.below).compareTo(o.above.multiply(below));
        }
    }

    /** The odds that a sleeve put back once from one crate is in another. */
    private Fraction step(int s, int from, int to) {
        int all = back[0] + back[1] + back[2] + back[3];
        int n = rows.size();
        Fraction odds = Fraction.of(0, 1);
        if (own.get(s) == to) {
            odds = odds.plus(Fraction.of(back[0], all));
        }
        int ahead = from == 0 ? from : from - 1;
        int behind = from == n - 1 ? from : from + 1;
        if (ahead == to) {
            odds = odds.plus(Fraction.of(back[1], 2L * all));
        }
        if (behind == to) {
            odds = odds.plus(Fraction.of(back[1], 2L * all));
        }
        if (from == to) {
            odds = odds.plus(Fraction.of(back[2], all));
        }
        return odds.plus(Fraction.of(back[3], (long) all * n));
    }

    Fraction odds(int s, int from, int to, int k) {
        if (k == 0) {
            return Fraction.of(from == to ? 1 : 0, 1);
        }
        Fraction odds = Fraction.of(0, 1);
        for (int by = 0; by < rows.size(); by++) {
            Fraction one = step(s, from, by);
            if (one.above.signum() > 0) {
                odds = odds.plus(one.times(odds(s, by, to, k - 1)));
            }
        }
        return odds;
    }

    int hidden(int k) {
        int bits = 0;
        for (int s = 0; s < sleeves.size(); s++) {
            if (where(s) >= 0) {
                boolean can = false;
                boolean[] now = new boolean[rows.size()];
                now[own.get(s)] = true;
                for (int times = 0; times <= k; times++) {
                    can |= now[where(s)];
                    boolean[] then = new boolean[rows.size()];
                    for (int from = 0; from < now.length; from++) {
                        for (int to = 0; to < now.length; to++) {
                            then[to] |= now[from] && step(s, from, to).above.signum() > 0;
                        }
                    }
                    now = then;
                }
                if (!can) {
                    bits += 1 << s;
                }
            }
        }
        return bits;
    }

    private int seconds(int crate, int f) {
        return (int) Math.ceil((rows.get(crate).size() + 1.0) / f);
    }

    List<Integer> order(int s, int k, int f) {
        List<Integer> order = new ArrayList<>();
        List<Fraction> worth = new ArrayList<>();
        for (int c = 0; c < rows.size(); c++) {
            order.add(c);
            worth.add(odds(s, where(s), c, k).times(Fraction.of(1, seconds(c, f))));
        }
        order.sort((a, b) -> worth.get(b).compare(worth.get(a)));
        return order;
    }

    Fraction mean(int s, int k, int f) {
        Fraction mean = Fraction.of(0, 1);
        int till = 0;
        for (int c : order(s, k, f)) {
            till += seconds(c, f);
            mean = mean.plus(odds(s, where(s), c, k).times(Fraction.of(till, 1)));
        }
        return mean;
    }

    // ---- what is best

    int pace() {
        int best = 1;
        for (int f = 1; f <= 8; f++) {
            if (f * (8 - miss[f]) > best * (8 - miss[best])) {
                best = f;
            }
        }
        return best;
    }

    int[] round() {
        int[] best = null;
        for (int way = 0; way < 1 << lookers.size(); way++) {
            Twin day = copy();
            day.blind = true;
            for (int k = 0; k < lookers.size(); k++) {
                day.lookers.get(k).left = (way >> k & 1) == 1;
            }
            day.run(99);
            if (best == null || day.waited() < best[1]) {
                best = new int[] {way, day.waited()};
            }
        }
        return best;
    }

    int[] basket(int money) {
        int[] best = {0, 0, 0};
        for (int set = 0; set < 1 << sleeves.size(); set++) {
            int good = 0;
            int price = 0;
            boolean lies = true;
            for (int s = 0; s < sleeves.size(); s++) {
                if ((set >> s & 1) == 1) {
                    lies &= where(s) >= 0;
                    good += sleeves.get(s)[2];
                    price += sleeves.get(s)[1];
                }
            }
            if (lies && price <= money && (good > best[0] || good == best[0] && price < best[1])) {
                best = new int[] {good, price, set};
            }
        }
        return best;
    }

    List<Integer> changes() {
        List<Integer> discs = new ArrayList<>(this.discs);
        List<Integer> changes = new ArrayList<>();
        while (true) {
            int least = 0;
            while (least < discs.size() && discs.get(least) == least) {
                least++;
            }
            if (least == discs.size()) {
                return changes;
            }
            int other = discs.indexOf(least);
            discs.set(other, discs.get(least));
            discs.set(least, least);
            changes.add(100 * least + other);
        }
    }

    int stay() {
        int best = 0;
        for (int set = 0; set < 1 << dividers.size(); set++) {
            List<Integer> staying = new ArrayList<>();
            for (int d : dividers) {
                if ((set >> d & 1) == 1) {
                    staying.add(d);
                }
            }
            List<Integer> sorted = new ArrayList<>(staying);
            sorted.sort(null);
            if (sorted.equals(staying) && Integer.bitCount(set) > Integer.bitCount(best)) {
                best = set;
            }
        }
        return best;
    }

    /** How many rests there are, and the first, by floating halves, thirds and quarters that 12 makes whole. */
    static int[] rests(int n, int h, int c, int v) {
        int count = 0;
        int first = -1;
        int all = (int) Math.pow(h, n);
        for (int row = 0; row < all; row++) {
            int[] hours = new int[n];
            int rest = row;
            for (int who = n - 1; who >= 0; who--) {
                hours[who] = rest % h;
                rest /= h;
            }
            boolean still = true;
            for (int who = 0; who < n; who++) {
                for (int to = 0; to < h; to++) {
                    int[] other = hours.clone();
                    other[who] = to;
                    still &= gain(other, who, h, c, v) <= gain(hours, who, h, c, v);
                }
            }
            if (still) {
                count++;
                if (first < 0) {
                    StringBuilder digits = new StringBuilder();
                    for (int hour : hours) {
                        digits.append(hour);
                    }
                    first = Integer.parseInt(digits.toString());
                }
            }
        }
        return new int[] {count, first};
    }

    private static int gain(int[] hours, int who, int h, int c, int v) {
        int first = java.util.Arrays.stream(hours).min().getAsInt();
        int with = (int) java.util.Arrays.stream(hours).filter(x -> x == first).count();
        return (hours[who] == first ? 12 * v / with : 0) - 12 * c * (h - 1 - hours[who]);
    }

    static int often(int b, int w, int d) {
        int best = 1;
        for (int n = 1; n <= 60; n++) {
            if (cost(b, w, d, n) * best < cost(b, w, d, best) * n) {
                best = n;
            }
        }
        return best;
    }

    /** Day by day: w wrong ones that cost d in each day behind theirs. */
    static long cost(int b, int w, int d, int n) {
        long cost = b;
        for (int day = 1; day <= n; day++) {
            cost += w;
            cost += (long) d * w * (n - day);
        }
        return cost;
    }
}
