/** What the tests need to bring an object to a state, and to tell the wire that it has. */
final class Wires {
    static final int UNKNOWN = -1, BAD = -2, LATE = -3, FULL = -4, NONE = -9;
    static final int LEAST = Integer.MIN_VALUE, GREATEST = Integer.MAX_VALUE;

    /** Each is off what a CODE may be by one of its figures alone. */
    static final int[] NO_CODES = {5010, 175010, 14010, 19010, 15310, 15910, 15000, 15030, 15090,
        15012, 15019, 168222, 178221, 168321, 169221, 168231, 1015010, 0, 1, -1, -15010,
        -168221, 999999, LEAST, GREATEST};

    private Wires() {
    }

    static int code(int b, int d, int p, int s, int i) {
        return b * 10000 + d * 1000 + p * 100 + s * 10 + i;
    }

    /** All 768 in rising order. */
    static int[] codes() {
        int[] codes = new int[768];
        for (int number = 0; number < 768; number++) {
            codes[number] = code(1 + number / 48, 5 + number / 12 % 4, number / 4 % 3,
                1 + number / 2 % 2, number % 2);
        }
        return codes;
    }

    /** The TICKS that a letter takes: the IDLE ones ahead of it, START, d bits, parity, stops. */
    static int ticksSent(int code) {
        return code / 10000 * (1 + bitsOf(code));
    }

    static int bitsOf(int code) {
        return 1 + code / 1000 % 10 + (code / 100 % 10 == 0 ? 0 : 1) + code / 10 % 10;
    }

    /** An object that heard these LEVELS, RUN by RUN. */
    static WireGuess of(String levels) {
        WireGuess x = new WireGuess();
        hearAll(x, levels);
        return x;
    }

    static void hearAll(WireGuess x, String levels) {
        int from = 0;
        for (int k = 1; k <= levels.length(); k++) {
            boolean ends = k == levels.length() || levels.charAt(k) != levels.charAt(from);
            if (ends || k - from == 99) {
                x.hear(levels.charAt(from) - '0', k - from);
                from = k;
            }
        }
    }

    /** An object with so many TICKS of LEVEL 1, one RUN. */
    static WireGuess high(int ticks) {
        return of("1".repeat(ticks));
    }

    /** 360 TICKS, each of another LEVEL than the one ahead of it, by forty letters sent. */
    static WireGuess everyTickAnEdge() {
        WireGuess x = new WireGuess();
        for (int k = 0; k < 20; k++) {
            x.send(16010, 0b010101);
            x.send(16011, 0b010101);
        }
        return x;
    }

    static String levels(WireGuess x) {
        StringBuilder levels = new StringBuilder();
        int ticks = x.about(0);
        for (int tick = 0; tick < ticks; tick++) {
            levels.append(x.level(tick));
        }
        return levels.toString();
    }

    /** The same wire in fewer calls: the first LEVEL and the RUNS. */
    static String runs(WireGuess x) {
        StringBuilder runs = new StringBuilder().append(x.level(0));
        for (int i = 0; i < 361 && x.run(i) != NONE; i++) {
            runs.append(' ').append(x.run(i));
        }
        return runs.toString();
    }

    static void writeAll(WireGuess x, String text) {
        for (int k = 0; k < text.length(); k++) {
            x.write(text.charAt(k));
        }
    }

    static WireGuess written(String text) {
        WireGuess x = new WireGuess();
        writeAll(x, text);
        return x;
    }

    static WireGuess taken(String text) {
        WireGuess x = written(text);
        Due.holds(text + " is a TAKE", x.take() >= 0);
        return x;
    }

    static void wireIs(String when, WireGuess x, String want) {
        String got = levels(x);
        Due.holds(when + ": the wire is " + want + ", not " + got, got.equals(want));
    }
}
