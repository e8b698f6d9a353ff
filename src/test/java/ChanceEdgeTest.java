import java.math.BigInteger;

/** Promises 21 to 23: the bounds of CHANCES, of THE SEED, of what is DRAWN. */
public final class ChanceEdgeTest {
    private static final int BAD = Wires.BAD;
    private static final int[] FAR = {Wires.LEAST, Wires.LEAST + 1, -1000, 1000, Wires.GREATEST - 1,
        Wires.GREATEST};
    private static final long FACTOR = 6364136223846793005L;
    private static final long STEP = 1442695040888963407L;

    private ChanceEdgeTest() {
    }

    public static void main(String[] args) {
        edgesFrom0To6();
        tenthsFrom0To10();
        codesOfChances();
        chanceForNoEdges();
        fewerEdgesThanN();
        eachTenthInLeastTerms();
        sixEdges();
        noTenthsIsAsItIs();
        tenTenthsIsFlipped();
        onlyTheFirstN();
        edgesAsTheWireIs();
        seedOfAnyLong();
        seedAtFirst();
        timesFrom1To10();
        codesOfWhatIsDrawn();
        seedWraps();
        seedGoesOn();
        theLetterIsTheLowestEightBits();
        sentIfThereIsPlace();
        flippedThoughNothingIsSent();
        flippedIfThereIsSuchATick();
        flippedOneTimeInFour();
        theHighestBitIsNoSign();
        framesAheadOfAFailure();
        allFromThenOn();
        doneStepByStep();
        Due.close("ChanceEdgeTest");
    }

    private static void chanceIs(String when, WireGuess x, int code, int n, int tenths, int above,
            int below) {
        String call = "21: " + when + ", chance(" + code + ", " + n + ", " + tenths + ", ";
        Due.is(call + "true)", x.chance(code, n, tenths, true), above);
        Due.is(call + "false)", x.chance(code, n, tenths, false), below);
    }

    private static void edgesFrom0To6() {
        WireGuess x = Wires.of("10111111");
        chanceIs("n 0", x, 15010, 0, 5, 1, 1);
        chanceIs("n 6", x, 15010, 6, 5, 1, 2);
        Due.is("21: n -1", x.chance(15010, -1, 5, true), BAD);
        Due.is("21: n 7", x.chance(15010, 7, 5, true), BAD);
        for (int n : FAR) {
            Due.is("21: n " + n, x.chance(15010, n, 5, false), BAD);
        }
    }

    private static void tenthsFrom0To10() {
        WireGuess x = Wires.of("10111111");
        chanceIs("x 0", x, 15010, 1, 0, 1, 1);
        chanceIs("x 10", x, 15010, 1, 10, 0, 1);
        Due.is("21: x -1", x.chance(15010, 1, -1, true), BAD);
        Due.is("21: x 11", x.chance(15010, 1, 11, true), BAD);
        Due.is("21: x -1 for no EDGES", x.chance(15010, 0, -1, true), BAD);
        Due.is("21: x 11 for no EDGES", x.chance(15010, 0, 11, false), BAD);
        for (int tenths : FAR) {
            Due.is("21: x " + tenths, x.chance(15010, 1, tenths, false), BAD);
        }
    }

    private static void codesOfChances() {
        for (int code : Wires.NO_CODES) {
            Due.is("21: " + code, new WireGuess().chance(code, 0, 0, true), BAD);
            Due.is("21: " + code + " below", new WireGuess().chance(code, 6, 10, false), BAD);
        }
        chanceIs("the least CODE", new WireGuess(), 15010, 0, 0, 0, 1);
        chanceIs("the greatest CODE", new WireGuess(), 168221, 6, 10, 0, 1);
    }

    private static void chanceForNoEdges() {
        for (int tenths = 0; tenths <= 10; tenths++) {
            chanceIs("it FITS", Wires.of("10111111"), 15010, 0, tenths, 1, 1);
            chanceIs("it does not FIT", Wires.of("1011111"), 15010, 0, tenths, 0, 1);
        }
    }

    /** As many as there are: none, one, two, four of six. */
    private static void fewerEdgesThanN() {
        for (int n = 0; n <= 6; n++) {
            chanceIs("nothing", new WireGuess(), 15010, n, 3, 0, 1);
            chanceIs("no EDGE", Wires.high(9), 15010, n, 3, 0, 1);
            chanceIs("one EDGE", Wires.of("11111110"), 15010, n, 3, 0, 1);
        }
        WireGuess x = Wires.of("10111111");
        for (int n = 1; n <= 6; n++) {
            chanceIs("two EDGES", x, 15010, n, 3, 7, 10);
        }
        // The START is not flipped, and of the bits none or two are.
        x = Wires.of("1" + "0" + "11011" + "1" + "1");
        chanceIs("three of four EDGES", x, 15210, 3, 3, 203, 500);
        chanceIs("four EDGES", x, 15210, 4, 3, 931, 2500);
        chanceIs("four EDGES for five", x, 15210, 5, 3, 931, 2500);
        chanceIs("four EDGES for six", x, 15210, 6, 3, 931, 2500);
    }

    private static void eachTenthInLeastTerms() {
        int[] above = {1, 9, 4, 7, 3, 1, 2, 3, 1, 1, 0};
        int[] below = {1, 10, 5, 10, 5, 2, 5, 10, 5, 10, 1};
        for (int tenths = 0; tenths <= 10; tenths++) {
            chanceIs("one less x", Wires.of("10111111"), 15010, 1, tenths, above[tenths],
                below[tenths]);
        }
        // Flipped, TICK 2 makes the ONES odd in number; TICK 1 leaves no room for a FRAME.
        chanceIs("8/10 twice", Wires.of("101111111"), 15110, 2, 2, 16, 25);
        chanceIs("by itself each", Wires.of("101111111"), 15110, 2, 1, 81, 100);
    }

    /**
     * It FITS, if the START is not flipped and an even number of the five bits is: by x tenths
     * that is (1 - x) (1 + (1 - 2 x) ** 5) / 2.
     */
    private static void sixEdges() {
        WireGuess x = Wires.of("1" + "0" + "10101" + "1" + "1");
        for (int tenths = 0; tenths <= 10; tenths++) {
            long millionths = millionths(tenths);
            BigInteger gcd = BigInteger.valueOf(millionths).gcd(BigInteger.valueOf(1000000));
            chanceIs("six EDGES", x, 15110, 6, tenths, (int) (millionths / gcd.longValue()),
                (int) (1000000 / gcd.longValue()));
        }
        chanceIs("by hand", x, 15110, 6, 1, 37341, 62500);
        chanceIs("by hand", x, 15110, 6, 3, 22099, 62500);
        chanceIs("by hand", x, 15110, 6, 5, 1, 4);
        chanceIs("by hand", x, 15110, 6, 7, 9279, 62500);
        chanceIs("by hand", x, 15110, 6, 9, 2101, 62500);
    }

    private static long millionths(int tenths) {
        long fifth = 1;
        for (int k = 0; k < 5; k++) {
            fifth *= 10 - 2 * tenths;
        }
        return (10 - tenths) * (100000 + fifth) / 2;
    }

    private static final String[] WIRES = {"1" + "0" + "10101" + "1" + "1",
        "11100010110010111011", "1110001110001111111111111111", "10101010101010101111",
        "0111010001110100001", "1100110011001100110011001111111111", "1101011111111"};
    private static final int[] CODES = {15010, 15110, 15210, 16010, 25010, 35010, 15011, 18010};

    private static WireGuess flippedAtEdges(String levels, int n) {
        WireGuess x = Wires.of(levels);
        int flipped = 0;
        for (int tick = 1; tick < levels.length() && flipped < n; tick++) {
            if (levels.charAt(tick) != levels.charAt(tick - 1)) {
                x.flip(tick);
                flipped++;
            }
        }
        return x;
    }

    private static void noTenthsIsAsItIs() {
        for (String levels : WIRES) {
            for (int code : CODES) {
                int fits = Wires.of(levels).guess(code, 1);
                for (int n = 0; n <= 6; n++) {
                    chanceIs("x 0 of " + levels, Wires.of(levels), code, n, 0, fits, 1);
                }
            }
        }
    }

    /** The first n EDGES of THE WIRE as it is, all of them for certain. */
    private static void tenTenthsIsFlipped() {
        int changes = 0;
        for (String levels : WIRES) {
            for (int code : CODES) {
                for (int n = 0; n <= 6; n++) {
                    int fits = flippedAtEdges(levels, n).guess(code, 1);
                    changes += fits == Wires.of(levels).guess(code, 1) ? 0 : 1;
                    chanceIs("x 10 of " + levels, Wires.of(levels), code, n, 10, fits, 1);
                }
            }
        }
        Due.holds("21: it makes a difference", changes > 10);
    }

    /** The START goes with the first EDGE, comes back with the second; the others do no harm. */
    private static void onlyTheFirstN() {
        WireGuess x = Wires.of("11" + "0" + "1111" + "0" + "1" + "1");
        int[] due = {1, 0, 1, 1, 1};
        for (int n = 0; n <= 4; n++) {
            chanceIs("the first " + n, x, 15010, n, 10, due[n], 1);
        }
        // Six flips make the START one later, and its stop is TICK 11: the seventh EDGE.
        String levels = "1010101" + "1111" + "0" + "1";
        chanceIs("six of eight", Wires.of(levels), 18010, 6, 10, 0, 1);
        Due.is("21: by seven it FITS", flippedAtEdges(levels, 7).guess(18010, 1), 1);
    }

    /** Flipped at its first EDGE, this wire has its EDGES elsewhere; they are not asked. */
    private static void edgesAsTheWireIs() {
        WireGuess x = Wires.of("110111111111");
        chanceIs("both EDGES flipped", x, 15010, 2, 10, 1, 1);
        x.flip(2);
        x.flip(3);
        Due.is("21: the START is one later", x.letter(15010, 0, true), 3);
    }

    private static void seedOfAnyLong() {
        WireGuess x = new WireGuess();
        long[] seeds = {1, -1, Long.MAX_VALUE, Long.MIN_VALUE, 1L << 33, 0, 12345678901234L};
        long was = 0;
        for (long v : seeds) {
            Due.is("22: seed(" + v + ")", x.seed(v), was);
            was = v;
        }
        Due.is("22: the last", x.seed(0), was);
    }

    private static void seedAtFirst() {
        Due.is("22: 0 at first", new WireGuess().seed(9), 0);
        WireGuess x = new WireGuess();
        x.drawn(15010, 1);
        Due.is("22: behind one time from 0", x.seed(0), STEP);
    }

    private static void timesFrom1To10() {
        WireGuess x = new WireGuess();
        Due.is("23: m 0", x.drawn(15010, 0), BAD);
        Due.is("23: m -1", x.drawn(15010, -1), BAD);
        Due.is("23: m 11", x.drawn(15010, 11), BAD);
        for (int m : FAR) {
            Due.is("23: m " + m, x.drawn(15010, m), BAD);
        }
        Due.is("23: THE SEED stays", x.seed(0), 0);
        for (int m = 1; m <= 10; m++) {
            x.seed(5);
            Due.holds("23: m " + m, x.drawn(15010, m) >= 0);
            Due.is("23: THE SEED behind " + m, x.seed(0), stepped(5, m));
        }
    }

    private static long stepped(long seed, int times) {
        BigInteger x = BigInteger.valueOf(seed);
        for (int k = 0; k < times; k++) {
            x = x.multiply(BigInteger.valueOf(FACTOR)).add(BigInteger.valueOf(STEP));
        }
        return x.longValue();
    }

    private static void codesOfWhatIsDrawn() {
        for (int code : Wires.NO_CODES) {
            WireGuess x = new WireGuess();
            x.seed(7);
            Due.is("23: drawn(" + code + ", 1)", x.drawn(code, 1), BAD);
            Due.is("23: THE SEED stays", x.seed(0), 7);
        }
    }

    private static void seedWraps() {
        long[] seeds = {Long.MAX_VALUE, Long.MIN_VALUE, -1, 1, Long.MAX_VALUE / 3};
        for (long seed : seeds) {
            WireGuess x = new WireGuess();
            x.seed(seed);
            x.drawn(15010, 1);
            Due.is("23: THE SEED behind " + seed, x.seed(0), stepped(seed, 1));
        }
    }

    private static void seedGoesOn() {
        WireGuess x = new WireGuess();
        x.seed(99);
        x.drawn(15010, 4);
        x.drawn(35111, 3);
        Due.is("23: from one call to the next", x.seed(0), stepped(99, 7));
    }

    /** The seed whose next x has v in its highest 31 bits: the step undone. */
    private static long seedFor(long v) {
        long inverse = 1;
        for (int k = 0; k < 6; k++) {
            inverse *= 2 - FACTOR * inverse;
        }
        return ((v << 33) - STEP) * inverse;
    }

    private static void drawnIs(String when, WireGuess x, int code, long v, int due) {
        x.seed(seedFor(v));
        Due.is("23: " + when + ", v " + v, x.drawn(code, 1), due);
        Due.is("23: " + when + ", v was " + v, x.seed(0) >>> 33, v);
    }

    /** A FRAME that is not whole looks into the LETTER that is SENT. */
    private static void theLetterIsTheLowestEightBits() {
        long noTick = 256L * 399;
        drawnIs("its stop is IDLE ahead", Wires.of("1011111"), 15010, noTick, 2);
        WireGuess x = Wires.of("10111");
        drawnIs("its stop is the lowest bit of 0", x, 15010, noTick, 0);
        drawnIs("its stop is the lowest bit of 1", x, 15010, noTick + 1, 1);
        drawnIs("of 254", x, 15010, noTick + 254, 0);
        drawnIs("of 255", x, 15010, noTick + 255, 1);
        // By eight bits the stop of the FRAME from TICK 1 on is the highest bit but one.
        x = Wires.of("1" + "0");
        drawnIs("of 127, the highest bit but one", x, 18010, noTick + 127, 1);
        drawnIs("of 63", x, 18010, noTick + 63, 0);
        // v / 256 is 511, which is TICK 111: it is not there.
        drawnIs("the greatest below 131072", Wires.of("10111"), 15010, 131071L, 1);
        drawnIs("the greatest v", Wires.of("10111"), 15010, (1L << 31) - 1, 1);
    }

    private static void sentIfThereIsPlace() {
        drawnIs("just place", Wires.high(352), 15010, 256L * 399, 1);
        drawnIs("a TICK too few", Wires.high(353), 15010, 256L * 399, 0);
        drawnIs("no place at all", Wires.high(360), 15010, 256L * 399, 0);
        drawnIs("just place for 208", Wires.of("1".repeat(152)), 168220, 256L * 399, 1);
        drawnIs("a TICK too few for 208", Wires.of("1".repeat(153)), 168220, 256L * 399, 0);
    }

    private static void flippedThoughNothingIsSent() {
        drawnIs("a START by a flip", Wires.high(360), 15010, 256L * 100, 1);
        drawnIs("the last TICK", Wires.high(360), 15010, 256L * 359, 0);
        drawnIs("just room for a FRAME", Wires.high(360), 15010, 256L * 353, 1);
        drawnIs("no room", Wires.high(360), 15010, 256L * 354, 0);
    }

    /** The LETTER 0 is SENT: 1 0 00000 1. */
    private static void flippedIfThereIsSuchATick() {
        WireGuess x = new WireGuess();
        drawnIs("TICK 0, no START is left", x, 15010, 0L, 0);
        drawnIs("TICK 1, the START", x, 15010, 256L, 0);
        drawnIs("TICK 2, a bit", x, 15010, 256L * 2, 1);
        drawnIs("TICK 7, the stop and the last", x, 15010, 256L * 7, 0);
        drawnIs("TICK 8 is not there", x, 15010, 256L * 8, 1);
        drawnIs("399 is not there", x, 15010, 256L * 399, 1);
        drawnIs("400 is TICK 0", x, 15010, 256L * 400, 0);
        drawnIs("401 is TICK 1", x, 15010, 256L * 401, 0);
        drawnIs("407 is TICK 7", x, 15010, 256L * 407, 0);
        drawnIs("408 is not there", x, 15010, 256L * 408, 1);
        WireGuess full = Wires.high(359);
        full.hear(0, 1);
        full.flip(359);
        drawnIs("TICK 359 is there", full, 15010, 256L * 359, 0);
        full.flip(359);
        Due.is("23: it FAILS at TICK 359", full.guess(15010, 2), 4);
    }

    /** TICK 1 is named each time; v / 131072 is 0, 1, 2, 3, 4, .. */
    private static void flippedOneTimeInFour() {
        WireGuess x = new WireGuess();
        drawnIs("0", x, 15010, 256L * 401, 0);
        drawnIs("1", x, 15010, 256L * 801, 1);
        drawnIs("2", x, 15010, 256L * 1201, 1);
        drawnIs("3", x, 15010, 256L * 1601, 1);
        drawnIs("3", x, 15010, 256L * 2001, 1);
        drawnIs("4", x, 15010, 256L * 2401, 0);
        drawnIs("5", x, 15010, 256L * 2801, 1);
        drawnIs("8", x, 15010, 256L * 4401, 0);
    }

    private static void theHighestBitIsNoSign() {
        WireGuess x = new WireGuess();
        // 2 ** 22 and 97 is TICK 1; 2 ** 13 can be divided by 4.
        drawnIs("2 ** 30 and TICK 1", x, 15010, (1L << 30) + 256L * 97, 0);
        drawnIs("2 ** 30 and no TICK", x, 15010, (1L << 30) + 256L * 90, 1);
    }

    private static void framesAheadOfAFailure() {
        WireGuess x = Wires.of("1" + "0" + "11111" + "1");
        // The second LETTER's stop, TICK 15, is flipped.
        drawnIs("one FRAME, then it FAILS", x, 15010, 256L * 15, 1);
        drawnIs("two FRAMES", x, 15010, 256L * 16, 2);
    }

    /** What was SENT and FLIPPED stays for the times behind it, and for these alone. */
    private static void allFromThenOn() {
        WireGuess x = new WireGuess();
        long seed = 0;
        int found = 0;
        for (int k = 0; k < 2000 && found < 20; k++) {
            seed = seed * 31 + 17;
            if (nothingIsFlipped(seed, 3)) {
                found++;
                x = new WireGuess();
                x.seed(seed);
                Due.is("23: 1 and 2 and 3 FRAMES", x.drawn(15010, 3), 6);
                x.seed(seed);
                Due.is("23: once more from the start", x.drawn(15010, 3), 6);
                Due.is("23: nothing is there", x.about(0), 0);
            }
        }
        Due.is("23: such seeds", found, 20);
    }

    private static boolean nothingIsFlipped(long seed, int times) {
        for (int k = 1; k <= times; k++) {
            int v = (int) (stepped(seed, k) >>> 33);
            if (v / 131072 % 4 == 0 && v / 256 % 400 < 8 * k) {
                return false;
            }
        }
        return true;
    }

    /** The same by send(), flip(), guess(): "SENT, then FLIPPED, then read, each time". */
    private static void doneStepByStep() {
        int[] codes = {15010, 18120, 26211, 48110, 75021, 168221};
        int[] ticks = {0, 3, 120, 300, 352, 353, 360};
        for (int code : codes) {
            for (int start : ticks) {
                for (int m = 1; m <= 10; m++) {
                    long seed = 1000003L * code + 7919L * start + m;
                    WireGuess x = Wires.high(start);
                    x.seed(seed);
                    Due.is("23: " + start + " TICKS, drawn(" + code + ", " + m + ") by " + seed,
                        x.drawn(code, m), byHand(Wires.high(start), code, m, seed));
                }
            }
        }
    }

    private static int byHand(WireGuess x, int code, int m, long seed) {
        int frames = 0;
        for (int k = 1; k <= m; k++) {
            int v = (int) (stepped(seed, k) >>> 33);
            x.send(code, v % 256);
            if (v / 131072 % 4 == 0) {
                x.flip(v / 256 % 400);
            }
            frames += x.guess(code, 0);
        }
        return frames;
    }
}
