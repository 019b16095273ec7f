import java.math.BigInteger;
import java.util.ArrayList;
import java.util.HashMap;
import java.util.List;
import java.util.Map;
import java.util.regex.Matcher;
import java.util.regex.Pattern;

/** Promises 3 and 4: random texts with faults, against a reader that cuts them into tokens; and wild calls. */
public final class FaultTest {
    private static long state = 4711;

    private static int any(int n) {
        state = state * 6364136223846793005L + 1442695040888963407L;
        return (int) ((state >>> 33) % n);
    }

    public static void main(String[] args) {
        Map<String, Integer> seen = new HashMap<>();
        for (int i = 0; i < 20000; i++) {
            String text = spoiled(text());
            if (text.length() > 600) {
                continue;
            }
            FlickedCrates x = new FlickedCrates();
            int[] due = read(text);
            Checks.due("shop of \"" + text + "\"", Checks.shop(x, text), due[0]);
            Checks.due("fault of \"" + text + "\"", x.fault(), due[1]);
            seen.merge(due[0] < 0 ? "fault " + (due[0] + 10) : "shop", 1, Integer::sum);
        }
        for (String kind : new String[] {"fault 1", "fault 2", "fault 3", "fault 4", "shop"}) {
            Checks.due("some texts are: " + kind, seen.getOrDefault(kind, 0) > 20 ? 1 : 0, 1);
        }
        for (int i = 0; i < 150; i++) {
            wild();
        }
        Checks.end();
    }

    private static String text() {
        StringBuilder text = new StringBuilder();
        int letter = 0;
        int crates = any(12) == 0 ? 9 : 1 + any(4);
        for (int c = 0; c < crates; c++) {
            text.append("crate ").append(letter).append(';');
            letter += 1 + any(4);
        }
        String[] shapes = {"sleeve l p g;", "sleeve l p g;", "lies s c;", "disc s s;", "looker t f g q m;", "left k;",
            "miss f e;", "stop h;", "back g g g g;"};
        int most = any(20) == 0 ? 70 : 12;
        int only = any(4) == 0 ? any(shapes.length) : -1;
        for (int i = any(most); i > 0; i--) {
            String shape = shapes[only < 0 || any(9) == 0 ? any(shapes.length) : only];
            text.append(shape, 0, shape.indexOf(' '));
            for (String sign : shape.substring(shape.indexOf(' ') + 1, shape.length() - 1).split(" ")) {
                text.append(' ').append(number(sign));
            }
            text.append(any(10) == 0 ? " ;" : ";");
        }
        return text.toString();
    }

    private static int number(String sign) {
        switch (sign) {
            case "l":
                return any(27);
            case "p":
                return 1 + any(100);
            case "g":
                return any(10);
            case "q":
                return any(100);
            case "s":
                return any(4);
            case "c":
                return any(3);
            case "t":
                return any(602);
            case "f":
                return 1 + any(8);
            case "m":
                return any(1000);
            case "k":
                return any(2);
            case "e":
                return any(9);
            default:
                return any(31);
        }
    }

    private static String spoiled(String text) {
        StringBuilder s = new StringBuilder(text);
        String signs = " ;0159acdefiklmoprstv Z-\0";
        for (int times = any(3); times > 0 && s.length() > 0; times--) {
            int at = any(s.length());
            switch (any(5)) {
                case 0:
                    s.deleteCharAt(at);
                    break;
                case 1:
                    s.insert(at, signs.charAt(any(signs.length())));
                    break;
                case 2:
                    s.setCharAt(at, signs.charAt(any(signs.length())));
                    break;
                case 3:
                    s.setLength(at);
                    break;
                default:
                    s.insert(at, any(2) == 0 ? " " : "crate 25;");
            }
        }
        return s.toString();
    }

    private record Token(String said, int at) {
    }

    private static List<Token> tokens;
    private static int next;

    private static Token take() {
        return tokens.get(Math.min(next++, tokens.size() - 1));
    }

    /** What shop() and fault() are due to answer. */
    private static int[] read(String text) {
        tokens = new ArrayList<>();
        next = 0;
        Matcher m = Pattern.compile("[a-z]+|[0-9]+|[^ ]").matcher(text);
        while (m.find()) {
            tokens.add(new Token(m.group(), m.start()));
        }
        tokens.add(new Token("", text.length()));
        int crates = 0;
        int sleeves = 0;
        int lookers = 0;
        int last = -1;
        boolean others = false;
        for (int clauses = 0;; clauses++) {
            Token word = take();
            if (word.said.isEmpty()) {
                return new int[] {sleeves, -1};
            }
            String shape = shapes(crates, sleeves, lookers, last).get(word.said);
            boolean crate = word.said.equals("crate");
            if (shape == null || !crate && crates == 0) {
                return new int[] {-9, word.at};
            }
            if (clauses == 60 || crate && crates == 8 || word.said.equals("sleeve") && sleeves == 24
                    || word.said.equals("looker") && lookers == 6) {
                return new int[] {-7, word.at};
            }
            if (crate && others) {
                return new int[] {-6, word.at};
            }
            List<BigInteger> numbers = new ArrayList<>();
            int together = 0;
            for (String bounds : shape.split(" ")) {
                Token number = take();
                if (!number.said.matches("[0-9]+")) {
                    return new int[] {-9, number.at};
                }
                BigInteger value = new BigInteger(number.said);
                BigInteger least = new BigInteger(bounds.substring(0, bounds.indexOf(':')));
                BigInteger most = new BigInteger(bounds.substring(bounds.indexOf(':') + 1));
                boolean alike = word.said.equals("disc") && numbers.contains(value);
                numbers.add(value);
                if (value.compareTo(least) < 0 || value.compareTo(most) > 0 || alike) {
                    return new int[] {-8, number.at};
                }
                together += value.intValue();
                if (word.said.equals("back") && numbers.size() == 4 && together == 0) {
                    return new int[] {-8, number.at};
                }
            }
            Token end = take();
            if (!end.said.equals(";")) {
                return new int[] {-9, end.at};
            }
            last = crate ? numbers.get(0).intValue() : last;
            crates += crate ? 1 : 0;
            sleeves += word.said.equals("sleeve") ? 1 : 0;
            lookers += word.said.equals("looker") ? 1 : 0;
            others |= !crate;
        }
    }

    private static Map<String, String> shapes(int crates, int sleeves, int lookers, int last) {
        Map<String, String> shapes = new HashMap<>();
        shapes.put("crate", crates == 0 ? "0:0" : (last + 1) + ":25");
        shapes.put("sleeve", "0:25 1:99 0:9");
        shapes.put("lies", "0:" + (sleeves - 1) + " 0:" + (crates - 1));
        shapes.put("disc", "0:" + (sleeves - 1) + " 0:" + (sleeves - 1));
        shapes.put("looker", "0:600 1:8 0:9 0:99 0:999");
        shapes.put("left", "0:" + (lookers - 1));
        shapes.put("miss", "1:8 0:8");
        shapes.put("stop", "0:30");
        shapes.put("back", "0:9 0:9 0:9 0:9");
        return shapes;
    }

    private static FlickedCrates wild;
    private static int refusals;

    private static int wildNumber() {
        switch (any(6)) {
            case 0:
                return (int) state;
            case 1:
                return any(2) == 0 ? Integer.MIN_VALUE : Integer.MAX_VALUE;
            case 2:
                return -1 - any(3);
            case 3:
                return any(1100);
            default:
                return any(5);
        }
    }

    /** Any calls with any numbers: nothing but what is counted in status() may be thrown. */
    private static void wild() {
        wild = new FlickedCrates();
        refusals = 0;
        for (int i = 0; i < 500; i++) {
            if (i % 50 == 0) {
                String text = text();
                wild.shop(0);
                Checks.shop(wild, text.length() > 600 ? "crate 0;" : text);
            }
            try {
                wildCall(any(33));
            } catch (IndexOutOfBoundsException | java.util.NoSuchElementException | IllegalArgumentException
                    | IllegalStateException e) {
                refusals++;
                Checks.due("thrown by the class itself", e.getStackTrace()[0].getMethodName().startsWith("need") ? 1 : 0, 1);
            }
            int counted = wild.status(0) + wild.status(1) + wild.status(2) + wild.status(3);
            Checks.due("refusals counted", counted, refusals);
        }
    }

    private static long wildCall(int call) {
        int a = wildNumber();
        int b = wildNumber();
        int c = wildNumber();
        int d = wildNumber();
        int e = wildNumber();
        FlickedCrates x = wild;
        switch (call) {
            case 0: return x.feed(a, b, c, d, e);
            case 1: return any(9) == 0 ? x.shop(a) : 0;
            case 2: return x.fault();
            case 3: return x.told(a);
            case 4: return x.crate(a, b);
            case 5: return x.row(a, b);
            case 6: return x.sleeve(a, b);
            case 7: return x.looker(a, b);
            case 8: return x.missed(a);
            case 9: return x.lay(a, b);
            case 10: return x.change(a, b);
            case 11: return x.wander(a, b);
            case 12: return x.day(a);
            case 13: return x.would(a, b);
            case 14: return x.buys(a, b, c);
            case 15: return x.then(a, b);
            case 16: return x.odds(a, b, c, d);
            case 17: return x.hidden(a);
            case 18: return x.order(a, b, c, d);
            case 19: return x.mean(a, b, c, d);
            case 20: return x.pace();
            case 21: return x.round(a);
            case 22: return x.basket(a, b);
            case 23: return x.sort();
            case 24: return x.off();
            case 25: return x.often(a, b, c, d);
            case 26: return x.changes() + x.changed(a);
            case 27: return x.divider(a);
            case 28: return x.moves(a);
            case 29: return x.rests(a, b, c, d, e);
            case 30: return x.image();
            case 31: return x.restore();
            default: return x.status(a) + x.count(b);
        }
    }
}
