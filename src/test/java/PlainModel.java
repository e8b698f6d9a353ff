import java.math.BigInteger;
import java.util.ArrayList;
import java.util.List;

/**
 * The document once more, as slowly and plainly as it can be said, for tests to compare with: the
 * wire is a String, acts are whole wires, a FAULT is found by trying to complete the text, a SHARE
 * by going through all orders, a CHANCE by a tree of fractions.
 */
final class PlainModel {
    static final int UNKNOWN = -1, BAD = -2, LATE = -3, FULL = -4, NONE = -9;

    private String wire = "";
    private String text = "";
    private final List<String> before = new ArrayList<>();
    private final List<int[]> known = new ArrayList<>();
    private final String[] kept = new String[2];
    private long seed = 0;

    private static List<Integer> allCodes() {
        List<Integer> codes = new ArrayList<>();
        for (int code = 0; code <= 999999; code++) {
            if (isCode(code)) {
                codes.add(code);
            }
        }
        return codes;
    }

    static final List<Integer> CODES = allCodes();

    static boolean isCode(int code) {
        return code >= 0 && code <= 999999
            && String.format("%06d", code).matches("(0[1-9]|1[0-6])[5-8][012][12][01]");
    }

    /** What one guess makes of one wire. */
    static final class Told {
        final List<Integer> letters = new ArrayList<>();
        final List<Integer> starts = new ArrayList<>();
        int failure = 0;
        int failedStart = NONE;
        int margin = Integer.MAX_VALUE;

        boolean fits() {
            return failure == 0 && !letters.isEmpty();
        }
    }

    static Told read(String wire, int code) {
        int b = code / 10000, d = code / 1000 % 10, p = code / 100 % 10, s = code / 10 % 10;
        char one = code % 10 == 1 ? '0' : '1';
        Told told = new Told();
        int t = 1;
        while (true) {
            while (t < wire.length() && !(wire.charAt(t) != one && wire.charAt(t - 1) == one)) {
                t++;
            }
            if (t >= wire.length()) {
                return told;
            }
            StringBuilder bits = new StringBuilder();
            String shape = "0" + "d".repeat(d) + (p == 0 ? "" : "p") + "s".repeat(s);
            int look = t;
            int margin = told.margin;
            for (int k = 0; k < shape.length(); k++) {
                look = t + b * k + b / 2;
                if (look >= wire.length()) {
                    told.failure = 4;
                } else {
                    boolean isOne = wire.charAt(look) == one;
                    bits.append(isOne ? '1' : '0');
                    long ones = bits.chars().filter(c -> c == '1').count();
                    char part = shape.charAt(k);
                    if (part == '0' && isOne) {
                        told.failure = 1;
                    } else if (part == 'p' && ones % 2 == (p == 1 ? 1 : 0)) {
                        told.failure = 2;
                    } else if (part == 's' && !isOne) {
                        told.failure = 3;
                    }
                    margin = Math.min(margin, inset(wire, look));
                }
                if (told.failure != 0) {
                    told.failedStart = t;
                    return told;
                }
            }
            String highestFirst = new StringBuilder(bits.substring(1, 1 + d)).reverse().toString();
            told.letters.add(Integer.parseInt(highestFirst, 2));
            told.starts.add(t);
            told.margin = margin;
            t = look;
        }
    }

    private static int inset(String wire, int tick) {
        int left = 0;
        while (tick - left - 1 >= 0 && wire.charAt(tick - left - 1) == wire.charAt(tick)) {
            left++;
        }
        int right = 0;
        while (tick + right + 1 < wire.length()
            && wire.charAt(tick + right + 1) == wire.charAt(tick)) {
            right++;
        }
        return Math.min(left, right);
    }

    private static List<Integer> runs(String wire) {
        List<Integer> runs = new ArrayList<>();
        for (int t = 0; t < wire.length(); t++) {
            if (t == 0 || wire.charAt(t) != wire.charAt(t - 1)) {
                runs.add(0);
            }
            runs.set(runs.size() - 1, runs.get(runs.size() - 1) + 1);
        }
        return runs;
    }

    private static List<Integer> edges(String wire) {
        List<Integer> edges = new ArrayList<>();
        for (int t = 1; t < wire.length(); t++) {
            if (wire.charAt(t) != wire.charAt(t - 1)) {
                edges.add(t);
            }
        }
        return edges;
    }

    private static int best(String wire) {
        int best = NONE;
        Told bestTold = null;
        for (int code : CODES) {
            Told told = read(wire, code);
            if (told.fits() && (bestTold == null || told.margin > bestTold.margin
                || told.margin == bestTold.margin
                && told.letters.size() > bestTold.letters.size())) {
                best = code;
                bestTold = told;
            }
        }
        return best;
    }

    private int alike() {
        int best = best(wire);
        int alike = 0;
        for (int code : CODES) {
            Told told = read(wire, code);
            if (told.fits() && told.letters.equals(read(wire, best).letters)) {
                alike++;
            }
        }
        return alike;
    }

    private List<Integer> left(List<int[]> facts) {
        List<Integer> left = new ArrayList<>();
        for (int code : CODES) {
            Told told = read(wire, code);
            boolean so = told.fits();
            for (int[] fact : facts) {
                so = so && fact[0] < told.letters.size() && told.letters.get(fact[0]) == fact[1];
            }
            if (so) {
                left.add(code);
            }
        }
        return left;
    }

    private static int offOf(String wire, int b) {
        List<Integer> runs = runs(wire);
        int sum = 0;
        for (int k = 1; k + 1 < runs.size(); k++) {
            int nearest = Integer.MAX_VALUE;
            for (int times = 1; times <= 400; times++) {
                nearest = Math.min(nearest, Math.abs(runs.get(k) - times * b));
            }
            sum += nearest;
        }
        return sum;
    }

    private static boolean isTake(String text) {
        if (!text.matches("S[01](r[0-9][0-9])*")) {
            return false;
        }
        int ticks = 0;
        for (int k = 2; k < text.length(); k += 3) {
            int n = Integer.parseInt(text.substring(k + 1, k + 3));
            if (n == 0) {
                return false;
            }
            ticks += n;
        }
        return ticks <= 360;
    }

    private static boolean canBecomeTake(String start) {
        String[] ends = {"", "S0", "0", "1", "2", "01"};
        for (String end : ends) {
            if (isTake(start + end)) {
                return true;
            }
        }
        return false;
    }

    private void did(String now) {
        if (before.size() == 14) {
            before.remove(0);
        }
        before.add(wire);
        wire = now;
    }

    private static String sent(int code, int letter) {
        int b = code / 10000, d = code / 1000 % 10, p = code / 100 % 10, s = code / 10 % 10;
        String bits = "";
        int low = letter % (1 << d);
        for (int k = 0; k < d; k++) {
            bits += (low >> k & 1) == 1 ? "1" : "0";
        }
        int odd = Integer.bitCount(low) % 2;
        String parity = p == 0 ? "" : "" + (p == 1 ? odd : 1 - odd);
        String all = "1" + "0" + bits + parity + "1".repeat(s);
        if (code % 10 == 1) {
            all = all.replace('0', 'x').replace('1', '0').replace('x', '1');
        }
        return all.replace("0", "0".repeat(b)).replace("1", "1".repeat(b));
    }

    private static String flipped(String wire, int tick) {
        char other = wire.charAt(tick) == '0' ? '1' : '0';
        return wire.substring(0, tick) + other + wire.substring(tick + 1);
    }

    private static int part(BigInteger above, BigInteger below, boolean upper) {
        BigInteger gcd = above.gcd(below);
        return (upper ? above : below).divide(gcd).intValueExact();
    }

    int write(int letter) {
        if (letter < 0 || letter > 255) {
            return BAD;
        }
        if (text.length() == 99) {
            return FULL;
        }
        text += (char) letter;
        return text.length();
    }

    int wipe() {
        int was = text.length();
        text = "";
        return was;
    }

    int fault() {
        for (int k = 0; k < text.length(); k++) {
            if (!canBecomeTake(text.substring(0, k + 1))) {
                return k;
            }
        }
        return isTake(text) ? NONE : text.length();
    }

    int take() {
        if (!isTake(text)) {
            return LATE;
        }
        wire = "";
        char level = text.charAt(1);
        for (int k = 2; k < text.length(); k += 3) {
            wire += ("" + level).repeat(Integer.parseInt(text.substring(k + 1, k + 3)));
            level = level == '0' ? '1' : '0';
        }
        before.clear();
        kept[0] = null;
        kept[1] = null;
        return wire.length();
    }

    int about(int what) {
        switch (what) {
            case 0: return wire.length();
            case 1: return edges(wire).size();
            case 2: return left(List.of()).size();
            case 3: return best(wire);
            case 4: return alike();
            case 5:
                int width = 16;
                for (int b = 15; b >= 1; b--) {
                    width = offOf(wire, b) < offOf(wire, width) ? b : width;
                }
                return width;
            case 6: return left(known).size();
            case 7: return left(known).isEmpty() ? NONE : left(known).get(0);
            case 8: return before.size();
            case 9: return known.size();
            case 10: return text.length();
            default: return BAD;
        }
    }

    int level(int tick) {
        return tick < 0 || tick >= wire.length() ? UNKNOWN : wire.charAt(tick) - '0';
    }

    int run(int i) {
        List<Integer> runs = runs(wire);
        return i < 0 || i >= runs.size() ? NONE : runs.get(i);
    }

    int off(int b) {
        return b < 1 || b > 16 ? BAD : offOf(wire, b);
    }

    int hear(int level, int n) {
        if (level < 0 || level > 1 || n < 1 || n > 99) {
            return BAD;
        }
        if (wire.length() + n > 360) {
            return FULL;
        }
        did(wire + ("" + level).repeat(n));
        return wire.length();
    }

    int send(int code, int letter) {
        if (!isCode(code) || letter < 0 || letter > 255) {
            return BAD;
        }
        if (wire.length() + sent(code, letter).length() > 360) {
            return FULL;
        }
        did(wire + sent(code, letter));
        return wire.length();
    }

    int flip(int tick) {
        if (tick < 0 || tick >= wire.length()) {
            return UNKNOWN;
        }
        did(flipped(wire, tick));
        return level(tick);
    }

    int cut(int n) {
        if (n < 1 || n > wire.length()) {
            return BAD;
        }
        did(wire.substring(0, wire.length() - n));
        return wire.length();
    }

    int undo() {
        if (before.isEmpty()) {
            return LATE;
        }
        wire = before.remove(before.size() - 1);
        return before.size();
    }

    int guess(int code, int what) {
        if (!isCode(code) || what < 0 || what > 4) {
            return BAD;
        }
        Told told = read(wire, code);
        int[] answers = {told.letters.size(), told.fits() ? 1 : 0, told.failure, told.failedStart,
            told.fits() ? told.margin : NONE};
        return answers[what];
    }

    int letter(int code, int i, boolean start) {
        if (!isCode(code)) {
            return BAD;
        }
        Told told = read(wire, code);
        if (i < 0 || i >= told.letters.size()) {
            return NONE;
        }
        return start ? told.starts.get(i) : told.letters.get(i);
    }

    int judge(int n, long row) {
        if (n < 1 || n > 3 || row < 0 || Long.toString(row).length() > 4 * n) {
            return BAD;
        }
        String told = String.format("%0" + 4 * n + "d", row);
        String now = wire;
        for (int place = 0; place < n; place++) {
            String doing = told.substring(4 * place, 4 * place + 4);
            int last2 = Integer.parseInt(doing.substring(2));
            int last3 = Integer.parseInt(doing.substring(1));
            boolean so = false;
            if (doing.matches("1[01]..") && last2 > 0 && now.length() + last2 <= 360) {
                now += doing.substring(1, 2).repeat(last2);
                so = true;
            } else if (doing.startsWith("2") && last3 < now.length()) {
                now = flipped(now, last3);
                so = true;
            } else if (doing.startsWith("3")) {
                so = edges(now).size() == last3;
            } else if (doing.startsWith("4") && last3 > 0 && last3 <= now.length()) {
                now = now.substring(0, now.length() - last3);
                so = true;
            } else if (doing.matches("5..[01]")) {
                int best = best(now);
                boolean ofBit = best != NONE
                    && String.format("%06d", best).startsWith(doing.substring(1, 3));
                so = ofBit == doing.endsWith("1");
            } else if (doing.startsWith("6")) {
                int best = best(now);
                so = best != NONE && read(now, best).letters.get(0) == last3;
            }
            if (!so) {
                return place;
            }
        }
        return NONE;
    }

    int know(int i, int v) {
        if (i < 0 || i > 9 || v < 0 || v > 255) {
            return BAD;
        }
        if (known.size() == 5) {
            return FULL;
        }
        known.add(new int[] {i, v});
        return known.size();
    }

    int forget() {
        int was = known.size();
        known.clear();
        return was;
    }

    int share(int place, boolean upper) {
        if (place < 0 || place >= known.size()) {
            return UNKNOWN;
        }
        int[] leftBySet = new int[1 << known.size()];
        for (int set = 0; set < leftBySet.length; set++) {
            List<int[]> facts = new ArrayList<>();
            for (int k = 0; k < known.size(); k++) {
                if ((set >> k & 1) == 1) {
                    facts.add(known.get(k));
                }
            }
            leftBySet[set] = left(facts).size();
        }
        long[] sumAndOrders = new long[2];
        goThroughOrders(0, place, leftBySet, sumAndOrders);
        return part(BigInteger.valueOf(sumAndOrders[0]), BigInteger.valueOf(sumAndOrders[1]), upper);
    }

    /** An order goes on until the place has come; the others behind it are counted, too. */
    private void goThroughOrders(int come, int place, int[] leftBySet, long[] sumAndOrders) {
        if (come == leftBySet.length - 1) {
            sumAndOrders[1]++;
            return;
        }
        for (int k = 0; k < known.size(); k++) {
            if ((come >> k & 1) == 0) {
                int next = come | 1 << k;
                long ordersBefore = sumAndOrders[1];
                goThroughOrders(next, place, leftBySet, sumAndOrders);
                if (k == place) {
                    long orders = sumAndOrders[1] - ordersBefore;
                    sumAndOrders[0] += orders * (leftBySet[come] - leftBySet[next]);
                }
            }
        }
    }

    int chance(int code, int n, int x, boolean upper) {
        if (!isCode(code) || n < 0 || n > 6 || x < 0 || x > 10) {
            return BAD;
        }
        List<Integer> edges = edges(wire);
        List<Integer> shaky = edges.subList(0, Math.min(n, edges.size()));
        BigInteger above = fitting(wire, code, shaky, BigInteger.valueOf(x));
        return part(above, BigInteger.TEN.pow(shaky.size()), upper);
    }

    private static BigInteger fitting(String now, int code, List<Integer> shaky, BigInteger x) {
        if (shaky.isEmpty()) {
            return read(now, code).fits() ? BigInteger.ONE : BigInteger.ZERO;
        }
        List<Integer> rest = shaky.subList(1, shaky.size());
        BigInteger turned = fitting(flipped(now, shaky.get(0)), code, rest, x);
        BigInteger same = fitting(now, code, rest, x);
        return turned.multiply(x).add(same.multiply(BigInteger.TEN.subtract(x)));
    }

    long seed(long v) {
        long was = seed;
        seed = v;
        return was;
    }

    int drawn(int code, int m) {
        if (!isCode(code) || m < 1 || m > 10) {
            return BAD;
        }
        String now = wire;
        int sum = 0;
        for (int k = 0; k < m; k++) {
            BigInteger x = BigInteger.valueOf(seed).multiply(BigInteger.valueOf(6364136223846793005L))
                .add(BigInteger.valueOf(1442695040888963407L));
            seed = x.longValue();
            BigInteger unsigned = x.mod(BigInteger.TWO.pow(64));
            int v = unsigned.shiftRight(33).intValueExact();
            String more = sent(code, v % 256);
            now = now.length() + more.length() <= 360 ? now + more : now;
            int tick = v / 256 % 400;
            if (tick < now.length() && v / 131072 % 4 == 0) {
                now = flipped(now, tick);
            }
            sum += read(now, code).letters.size();
        }
        return sum;
    }

    int keep(int slot) {
        if (slot < 0 || slot > 1) {
            return UNKNOWN;
        }
        kept[slot] = wire;
        return wire.length();
    }

    int again(int slot) {
        if (slot < 0 || slot > 1) {
            return UNKNOWN;
        }
        if (kept[slot] == null) {
            return LATE;
        }
        wire = kept[slot];
        before.clear();
        return wire.length();
    }
}
