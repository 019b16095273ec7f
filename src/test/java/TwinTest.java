import java.util.ArrayList;
import java.util.List;

/** Random shops and calls, always the same ones: each answer is compared with that of the twin. */
public final class TwinTest {
    private static long state = 20261118;

    private static int any(int n) {
        state = state * 6364136223846793005L + 1442695040888963407L;
        return (int) ((state >>> 33) % n);
    }

    private static int from(int least, int most) {
        return least + any(most - least + 1);
    }

    public static void main(String[] args) {
        for (int shop = 0; shop < 260; shop++) {
            oneShop(shop);
        }
        games();
        Checks.end();
    }

    private static Twin twin;
    private static StringBuilder text;
    private static int clauses;

    private static void clause(String word, int... numbers) {
        text.append(" ".repeat(any(8) / 7)).append(word);
        for (int number : numbers) {
            text.append(' ').append(number);
        }
        text.append(" ".repeat(any(8) / 7)).append(';');
        clauses++;
    }

    private static void tell() {
        twin = new Twin();
        text = new StringBuilder();
        clauses = 0;
        int crates = from(1, 8);
        for (int c = 0, letter = 0; c < crates; c++) {
            clause("crate", letter);
            twin.letters.add(letter);
            twin.rows.add(new ArrayList<>());
            twin.dividers.add(c);
            letter += from(1, 3);
        }
        int sleeves = from(0, any(3) == 0 ? 4 : 12);
        int dear = any(3) == 0 ? 99 : 12;
        int[] lies = new int[sleeves];
        for (int s = 0; s < sleeves; s++) {
            int[] told = {from(0, 25), from(1, dear), from(0, 9)};
            clause("sleeve", told);
            twin.sleeves.add(told);
            int own = 0;
            for (int c = 0; c < crates; c++) {
                own = twin.letters.get(c) <= told[0] ? c : own;
            }
            twin.own.add(own);
            twin.discs.add(s);
            lies[s] = own;
        }
        int lookers = from(0, 6);
        for (int k = 0; k < lookers; k++) {
            Twin.Looker l = new Twin.Looker();
            l.t = any(6) == 0 ? from(0, 600) : from(0, 12);
            l.f = from(1, 8);
            l.w = from(0, any(2) == 0 ? 9 : 3);
            l.p = from(0, dear);
            l.m = from(0, any(2) == 0 ? 999 : 40);
            clause("looker", l.t, l.f, l.w, l.p, l.m);
            twin.lookers.add(l);
        }
        twin.miss = twin.miss.clone();
        tellMore(lies);
        for (int s = 0; s < sleeves; s++) {
            twin.rows.get(lies[s]).add(s);
        }
    }

    private static void tellMore(int[] lies) {
        int more = from(0, 12);
        for (int i = 0; i < more && clauses < 60 && text.length() < 570; i++) {
            int sleeves = twin.sleeves.size();
            int kind = any(7);
            if (kind == 0 && sleeves > 0) {
                int s = any(sleeves);
                lies[s] = any(twin.rows.size());
                clause("lies", s, lies[s]);
            } else if (kind == 1 && sleeves > 1) {
                int s = any(sleeves);
                int t = (s + from(1, sleeves - 1)) % sleeves;
                clause("disc", s, t);
                java.util.Collections.swap(twin.discs, s, t);
            } else if (kind == 2 && !twin.lookers.isEmpty()) {
                int k = any(twin.lookers.size());
                clause("left", k);
                twin.lookers.get(k).left = true;
            } else if (kind == 3) {
                int f = from(1, 8);
                twin.miss[f] = from(0, 8);
                clause("miss", f, twin.miss[f]);
            } else if (kind == 4) {
                twin.stop = any(4) == 0 ? from(0, 30) : from(0, 3);
                clause("stop", twin.stop);
            } else if (kind > 4) {
                int[] back = {any(10), any(10), any(10), any(10)};
                for (int w = 0; w < 4; w++) {
                    back[w] *= any(2);
                }
                if (back[0] + back[1] + back[2] + back[3] > 0) {
                    twin.back = back;
                    clause("back", back);
                }
            }
        }
    }

    private static void oneShop(int number) {
        do {
            tell();
        } while (text.length() > 600);
        FlickedCrates x = new FlickedCrates();
        Checks.due("shop " + number + " " + text, Checks.shop(x, text.toString()), twin.sleeves.size());
        for (int call = 0; call < 14; call++) {
            change(x, "shop " + number + " call " + call);
        }
    }

    private static void change(FlickedCrates x, String at) {
        int sleeves = twin.sleeves.size();
        int crates = twin.rows.size();
        switch (any(8)) {
            case 0:
            case 1:
                int seed = (int) (state >>> 13);
                Twin day = twin.copy();
                day.run(seed);
                would(x, at, seed, day);
                Checks.due(at + " day", x.day(seed), day.bought());
                twin.rows = day.rows;
                break;
            case 2:
                if (sleeves > 0) {
                    int s = any(sleeves);
                    int to = any(crates);
                    if (twin.where(s) >= 0) {
                        Checks.due(at + " lay", x.lay(s, to), twin.where(s));
                        twin.lay(s, to);
                    } else {
                        Checks.sold(at + " lay", x, () -> x.lay(s, to));
                    }
                }
                break;
            case 3:
                if (sleeves > 1) {
                    int s = any(sleeves);
                    int t = (s + from(1, sleeves - 1)) % sleeves;
                    java.util.Collections.swap(twin.discs, s, t);
                    Checks.due(at + " change", x.change(s, t), twin.discs.get(s));
                }
                break;
            case 4:
                int crate = any(crates);
                int to = any(crates);
                Checks.due(at + " wander", x.wander(crate, to), twin.dividers.indexOf(crate));
                twin.dividers.remove((Integer) crate);
                twin.dividers.add(to, crate);
                break;
            case 5:
                if (any(3) == 0) {
                    Checks.due(at + " sort", x.sort(), twin.sort());
                }
                break;
            case 6:
                if (twin.images.size() < 3) {
                    twin.images.add(twin.copy());
                    Checks.due(at + " image", x.image(), twin.images.size());
                } else {
                    Checks.due(at + " image", x.image(), -1);
                }
                break;
            default:
                restore(x, at);
        }
        compare(x, at);
        search(x, at);
    }

    private static void restore(FlickedCrates x, String at) {
        if (twin.images.isEmpty()) {
            Checks.due(at + " restore", x.restore(), -1);
            return;
        }
        Twin image = twin.images.remove(twin.images.size() - 1);
        twin.rows = image.rows;
        twin.discs = image.discs;
        twin.dividers = image.dividers;
        Checks.due(at + " restore", x.restore(), twin.images.size());
    }

    private static void would(FlickedCrates x, String at, int seed, Twin day) {
        int[] due = {day.bought(), day.spent(), day.waited(), day.held, day.off(), day.last()};
        for (int what = 0; what < 6; what++) {
            Checks.due(at + " would(" + seed + ", " + what + ")", x.would(seed, what), due[what]);
        }
        if (!day.lookers.isEmpty()) {
            int looker = any(day.lookers.size());
            Twin.Looker k = day.lookers.get(looker);
            int[] his = {k.bought, k.spent, k.waited, k.gone};
            for (int what = 0; what < 4; what++) {
                Checks.due(at + " buys(" + looker + ", " + seed + ", " + what + ")", x.buys(looker, seed, what), his[what]);
            }
        }
        for (int s = 0; s < day.sleeves.size(); s++) {
            Checks.due(at + " then(" + s + ", " + seed + ")", x.then(s, seed), day.where(s));
        }
    }

    private static void compare(FlickedCrates x, String at) {
        int sold = 0;
        for (int s = 0; s < twin.sleeves.size(); s++) {
            Checks.due(at + " where " + s, x.sleeve(s, 4), twin.where(s));
            Checks.due(at + " disc " + s, x.sleeve(s, 5), twin.discs.get(s));
            Checks.due(at + " kind " + s, x.sleeve(s, 6), twin.kind(s));
            sold += twin.where(s) < 0 ? 1 : 0;
        }
        Checks.due(at + " sold", x.count(2), sold);
        for (int c = 0; c < twin.rows.size(); c++) {
            int[] row = twin.rows.get(c).stream().mapToInt(i -> i).toArray();
            Checks.row(at, x, c, row);
            Checks.due(at + " divider " + c, x.divider(c), twin.dividers.get(c));
        }
        Checks.due(at + " off", x.off(), twin.off());
        List<Integer> changes = twin.changes();
        Checks.due(at + " changes", x.changes(), changes.size());
        for (int i = 0; i < changes.size(); i++) {
            Checks.due(at + " changed " + i, x.changed(i), changes.get(i));
        }
        Checks.due(at + " stay", x.moves(1), twin.stay());
        Checks.due(at + " moves", x.moves(0), twin.rows.size() - Integer.bitCount(twin.stay()));
        Checks.due(at + " pace", x.pace(), twin.pace());
    }

    private static void search(FlickedCrates x, String at) {
        int k = any(9);
        Checks.due(at + " hidden(" + k + ")", x.hidden(k), twin.hidden(k));
        if (any(4) == 0) {
            int money = any(2) == 0 ? any(60) : any(1000);
            int[] basket = twin.basket(money);
            for (int what = 0; what < 3; what++) {
                Checks.due(at + " basket(" + money + ", " + what + ")", x.basket(money, what), basket[what]);
            }
        }
        if (any(8) == 0) {
            int[] round = twin.round();
            Checks.due(at + " round bits", x.round(0), round[0]);
            Checks.due(at + " round waited", x.round(1), round[1]);
        }
        int sleeves = twin.sleeves.size();
        if (sleeves == 0) {
            return;
        }
        int s = any(sleeves);
        int times = any(4) == 0 ? 4 : any(4);
        int f = from(1, 8);
        if (twin.where(s) < 0) {
            Checks.sold(at + " odds", x, () -> x.odds(0, s, times, 0));
            Checks.sold(at + " order", x, () -> x.order(s, times, f, 0));
            Checks.sold(at + " mean", x, () -> x.mean(s, times, f, 0));
            return;
        }
        if (times == 4 && twin.rows.size() > 4) {
            return;
        }
        for (int c = 0; c < twin.rows.size(); c++) {
            Twin.Fraction odds = twin.odds(s, twin.where(s), c, times);
            Checks.due(at + " odds above", x.odds(c, s, times, 0), odds.above().longValueExact());
            Checks.due(at + " odds below", x.odds(c, s, times, 1), odds.below().longValueExact());
        }
        List<Integer> order = twin.order(s, times, f);
        for (int i = 0; i < order.size(); i++) {
            Checks.due(at + " order " + i, x.order(s, times, f, i), order.get(i));
        }
        Twin.Fraction mean = twin.mean(s, times, f);
        Checks.due(at + " mean above", x.mean(s, times, f, 0), mean.above().longValueExact());
        Checks.due(at + " mean below", x.mean(s, times, f, 1), mean.below().longValueExact());
    }

    private static void games() {
        for (int i = 0; i < 400; i++) {
            int n = from(2, 4);
            int h = from(2, 4);
            int c = any(2) == 0 ? from(0, 99) : from(0, 9);
            int v = any(2) == 0 ? from(1, 999) : from(1, 60);
            int[] due = Twin.rests(n, h, c, v);
            FlickedCrates x = new FlickedCrates();
            String call = "rests(" + n + ", " + h + ", " + c + ", " + v + ", ";
            Checks.due(call + "0)", x.rests(n, h, c, v, 0), due[0]);
            Checks.due(call + "1)", x.rests(n, h, c, v, 1), due[1]);
            int b = any(2) == 0 ? any(10000) : any(200);
            int w = any(100);
            int d = any(2) == 0 ? any(100) : any(4);
            int best = Twin.often(b, w, d);
            Twin.Fraction cost = Twin.Fraction.of(Twin.cost(b, w, d, best), best);
            String often = "often(" + b + ", " + w + ", " + d + ", ";
            Checks.due(often + "0)", x.often(b, w, d, 0), best);
            Checks.due(often + "1)", x.often(b, w, d, 1), cost.above().longValueExact());
            Checks.due(often + "2)", x.often(b, w, d, 2), cost.below().longValueExact());
        }
    }
}
