/** Promises 15 and 16: the bounds of CODES, STARTS, FRAMES, what FAILS, MARGINS, LETTERS. */
public final class GuessEdgeTest {
    private static final int BAD = Wires.BAD, NONE = Wires.NONE;
    private static final int[] FAR = {Wires.LEAST, Wires.LEAST + 1, -1000, 1000, Wires.GREATEST - 1,
        Wires.GREATEST};

    private GuessEdgeTest() {
    }

    public static void main(String[] args) {
        codesOfSixFigures();
        whatFrom0To4();
        readOfNothing();
        aZeroAtTick0IsNoStart();
        startAtTick1();
        startAtTheLastTick();
        startBehindTheLastStop();
        startInTheRestOfAStop();
        oneIsOnFromTheLastStop();
        halfABitIsCut();
        failsByOne();
        failsByTwo();
        failsByThree();
        failsByFourAtEachBit();
        theFirstThatFailsCounts();
        theLastStopIsJustThere();
        endsWithoutAFrame();
        aFrameThatFailsIsNoFrame();
        nothingIsReadBehindIt();
        mostFrames();
        leastAndGreatestLetter();
        letterNumbers();
        marginOfEachBit();
        marginByBothEnds();
        marginByTheEndsOfTheWire();
        marginIsTheLeastOfAllFrames();
        marginOfWhatDoesNotFit();
        eachCallByItself();
        Due.close("GuessEdgeTest");
    }

    /** What guess() tells: FRAMES, FITS, by what it FAILS, where, MARGIN. */
    private static void guessIs(String when, WireGuess x, int code, int... due) {
        for (int what = 0; what < due.length; what++) {
            Due.is("15: " + when + ", guess(" + code + ", " + what + ")",
                x.guess(code, what), due[what]);
        }
    }

    private static void readIs(String when, String levels, int code, int... due) {
        guessIs(when + ": " + levels, Wires.of(levels), code, due);
    }

    /** A new object for each 500 CODES, as one is good for 512 calls. */
    private static void codesOfSixFigures() {
        int good = 0;
        WireGuess x = new WireGuess();
        for (int code = -1000; code <= 1200000; code++) {
            if (code % 500 == 0) {
                x = new WireGuess();
            }
            boolean isGood = x.guess(code, 0) != BAD;
            good += isGood ? 1 : 0;
            if (isGood || code % 1000 == 0) {
                Due.is("16: letter(" + code + ")", new WireGuess().letter(code, 0, true),
                    isGood ? NONE : BAD);
            }
        }
        Due.is("15: CODES", good, 768);
        for (int code : Wires.NO_CODES) {
            Due.is("15: guess(" + code + ", 0)", new WireGuess().guess(code, 0), BAD);
            Due.is("16: letter(" + code + ", 0)", new WireGuess().letter(code, 0, false), BAD);
        }
        Due.is("15: the least", new WireGuess().guess(15010, 0), 0);
        Due.is("15: the greatest", new WireGuess().guess(168221, 0), 0);
    }

    private static void whatFrom0To4() {
        WireGuess x = Wires.of("10111111");
        guessIs("each", x, 15010, 1, 1, 0, NONE, 0);
        Due.is("15: what -1", x.guess(15010, -1), BAD);
        Due.is("15: what 5", x.guess(15010, 5), BAD);
        for (int what : FAR) {
            Due.is("15: what " + what, x.guess(15010, what), BAD);
        }
    }

    private static void readOfNothing() {
        readIs("nothing", "", 15010, 0, 0, 0, NONE, NONE);
        readIs("nothing, turned over", "", 168221, 0, 0, 0, NONE, NONE);
    }

    private static void aZeroAtTick0IsNoStart() {
        readIs("a ZERO at TICK 0", "0", 15010, 0, 0, 0, NONE, NONE);
        readIs("a ZERO at TICK 0", "0111111", 15010, 0, 0, 0, NONE, NONE);
        readIs("a 1 at TICK 0, turned over", "1000000", 15011, 0, 0, 0, NONE, NONE);
        readIs("ZEROS from TICK 0 on", "0001111111", 15010, 0, 0, 0, NONE, NONE);
        WireGuess x = Wires.of("00" + "1" + "0" + "11111" + "1");
        guessIs("the next one is", x, 15010, 1, 1, 0, NONE, 0);
        Due.is("16: its START", x.letter(15010, 0, true), 3);
    }

    private static void startAtTick1() {
        WireGuess x = Wires.of("1" + "0" + "00000" + "1");
        guessIs("at TICK 1", x, 15010, 1, 1, 0, NONE, 0);
        Due.is("16: START 1", x.letter(15010, 0, true), 1);
        x = Wires.of("0" + "1" + "11111" + "0");
        guessIs("at TICK 1, turned over", x, 15011, 1, 1, 0, NONE, 0);
        Due.is("16: START 1, turned over", x.letter(15011, 0, true), 1);
    }

    private static void startAtTheLastTick() {
        readIs("at the last TICK", "11110", 15010, 0, 0, 4, 4, NONE);
        readIs("at the last TICK, bit 0 is not there", "11110", 25010, 0, 0, 4, 4, NONE);
        WireGuess x = Wires.high(360);
        x.flip(359);
        guessIs("at TICK 359", x, 15010, 0, 0, 4, 359, NONE);
        guessIs("at TICK 359", x, 165010, 0, 0, 4, 359, NONE);
        readIs("no START at the end of IDLE", "11111", 15010, 0, 0, 0, NONE, NONE);
    }

    private static void startBehindTheLastStop() {
        WireGuess x = Wires.of("1" + "0" + "11111" + "1" + "0" + "00000" + "1");
        guessIs("the TICK behind the stop", x, 15010, 2, 1, 0, NONE, 0);
        Due.is("16: the second START", x.letter(15010, 1, true), 8);
        x = Wires.of("1" + "0" + "11111" + "11" + "0" + "00000" + "11");
        guessIs("behind the second stop", x, 15020, 2, 1, 0, NONE, 0);
        Due.is("16: the second START", x.letter(15020, 1, true), 9);
    }

    /** A stop of which only the TICK that is looked at has come. */
    private static void startInTheRestOfAStop() {
        for (int b = 1; b <= 16; b++) {
            int code = Wires.code(b, 5, 0, 1, 0);
            WireGuess x = new WireGuess();
            x.send(code, 31);
            int rest = b - 1 - b / 2;
            if (rest > 0) {
                x.cut(rest);
            }
            int start = x.about(0);
            x.hear(0, b);
            x.hear(1, 6 * b);
            guessIs("a stop cut short, b " + b, x, code, 2, 1, 0, NONE);
            Due.is("16: START at once, b " + b, x.letter(code, 1, true), start);
            Due.is("16: its LETTER, b " + b, x.letter(code, 1, false), 31);
        }
    }

    /** An EDGE between the START and the last stop is no START. */
    private static void oneIsOnFromTheLastStop() {
        WireGuess x = Wires.of("1" + "0" + "10101" + "1" + "1111");
        guessIs("one FRAME", x, 15010, 1, 1, 0, NONE, 0);
        Due.is("16: its LETTER", x.letter(15010, 0, false), 0b10101);
        x = Wires.of("1111" + "0000" + "1111".repeat(4) + "1010" + "1111" + "1111");
        guessIs("an EDGE beside the TICK that is looked at", x, 45010, 1, 1, 0, NONE, 0);
    }

    /** The TICK in the middle is looked at, and none beside it. */
    private static void halfABitIsCut() {
        for (int b = 2; b <= 16; b++) {
            int code = Wires.code(b, 8, 0, 1, 0);
            for (int tick = 1; tick < b; tick++) {
                WireGuess x = new WireGuess();
                x.send(code, 0);
                x.flip(b + tick);
                boolean middle = tick == b / 2;
                Due.is("15: bit 0 by " + b + ", TICK " + tick, x.guess(code, 2), middle ? 1 : 0);
                x.flip(b + tick);
                x.flip(8 * b + tick);
                Due.is("16: bit 7 by " + b + ", TICK " + tick, x.letter(code, 0, false),
                    middle ? 64 : 0);
            }
        }
        readIs("b 1 looks at the TICK itself", "10111111", 15010, 1, 1, 0, NONE, 0);
    }

    private static void failsByOne() {
        readIs("bit 0 is a ONE", "1" + "01" + "111111111111", 25010, 0, 0, 1, 1, NONE);
        readIs("bit 0 is a ZERO", "1" + "00" + "111111111111", 25010, 1, 1, 0, NONE, 0);
        readIs("turned over", "0" + "10" + "000000000000", 25011, 0, 0, 1, 1, NONE);
    }

    private static void failsByTwo() {
        String[] five = {"00000", "10000", "11000", "11100", "11110", "11111"};
        for (int ones = 0; ones <= 5; ones++) {
            for (int bit = 0; bit <= 1; bit++) {
                String levels = "1" + "0" + five[ones] + bit + "1";
                boolean odd = (ones + bit) % 2 == 1;
                Due.is("15: even, " + levels, Wires.of(levels).guess(15110, 2), odd ? 2 : 0);
                Due.is("15: odd, " + levels, Wires.of(levels).guess(15210, 2), odd ? 0 : 2);
            }
        }
        readIs("its START", "1" + "0" + "10000" + "0" + "1", 15110, 0, 0, 2, 1, NONE);
        readIs("turned over", "0" + "1" + "01111" + "1" + "0", 15111, 0, 0, 2, 1, NONE);
    }

    private static void failsByThree() {
        readIs("the stop", "1" + "0" + "11111" + "0", 15010, 0, 0, 3, 1, NONE);
        readIs("the first of two", "1" + "0" + "11111" + "01", 15020, 0, 0, 3, 1, NONE);
        readIs("the second of two", "1" + "0" + "11111" + "10", 15020, 0, 0, 3, 1, NONE);
        readIs("one stop is enough", "1" + "0" + "11111" + "1", 15010, 1, 1, 0, NONE, 0);
        readIs("behind parity", "1" + "0" + "11111" + "1" + "0", 15110, 0, 0, 3, 1, NONE);
        readIs("turned over", "0" + "1" + "00000" + "1", 15011, 0, 0, 3, 1, NONE);
    }

    private static void failsByFourAtEachBit() {
        String whole = "1" + "0" + "11111" + "1" + "11";
        for (int ticks = 2; ticks < whole.length(); ticks++) {
            readIs("a TICK is not there", whole.substring(0, ticks), 15120, 0, 0, 4, 1, NONE);
        }
        readIs("all are there", whole, 15120, 1, 1, 0, NONE, 0);
        readIs("bit 0 is not there", "10", 25010, 0, 0, 4, 1, NONE);
        readIs("bit 0 is not there, 16 TICKS", "1" + "00000000", 165010, 0, 0, 4, 1, NONE);
        readIs("bit 1 is not there", "1" + "000000000", 165010, 0, 0, 4, 1, NONE);
    }

    private static void theFirstThatFailsCounts() {
        readIs("1 ahead of 4", "101", 25010, 0, 0, 1, 1, NONE);
        readIs("4 ahead of 1", "10", 25010, 0, 0, 4, 1, NONE);
        readIs("2 ahead of 3", "1" + "0" + "10000" + "0" + "0", 15110, 0, 0, 2, 1, NONE);
        readIs("2 ahead of 4", "1" + "0" + "10000" + "0", 15110, 0, 0, 2, 1, NONE);
        readIs("4 ahead of 2", "1" + "0" + "10000", 15110, 0, 0, 4, 1, NONE);
        readIs("4 ahead of 2, odd", "1" + "0" + "11000", 15210, 0, 0, 4, 1, NONE);
        readIs("3 ahead of 4", "1" + "0" + "10000" + "0", 15020, 0, 0, 3, 1, NONE);
        readIs("4 ahead of 3", "1" + "0" + "10000" + "1", 15020, 0, 0, 4, 1, NONE);
        readIs("4 ahead of 3, turned over", "0" + "1" + "00000", 15011, 0, 0, 4, 1, NONE);
    }

    /** The last stop's TICK is the last one: it FITS; it is not there any more: it FAILS. */
    private static void theLastStopIsJustThere() {
        for (int code : Wires.codes()) {
            WireGuess x = new WireGuess();
            int b = code / 10000;
            x.send(code, 22);
            guessIs("whole", x, code, 1, 1, 0, NONE);
            int rest = b - 1 - b / 2;
            if (rest > 0) {
                x.cut(rest);
            }
            guessIs("just there", x, code, 1, 1, 0, NONE, 0);
            x.cut(1);
            guessIs("not there", x, code, 0, 0, 4, b, NONE);
        }
    }

    private static void endsWithoutAFrame() {
        readIs("no START", "111111111", 15010, 0, 0, 0, NONE, NONE);
        readIs("no START", "000000000", 15010, 0, 0, 0, NONE, NONE);
        readIs("no START, an EDGE", "000011111", 15010, 0, 0, 0, NONE, NONE);
        readIs("a FRAME, IDLE behind it", "1" + "0" + "00000" + "1" + "1111", 15010, 1, 1, 0, NONE);
    }

    private static void aFrameThatFailsIsNoFrame() {
        WireGuess x = Wires.of("1" + "0" + "11111" + "1" + "0" + "11111" + "0");
        guessIs("the second FAILS", x, 15010, 1, 0, 3, 8, NONE);
        Due.is("16: the first is read", x.letter(15010, 0, false), 31);
        Due.is("16: the second is none", x.letter(15010, 1, false), NONE);
        Due.is("16: it has no START", x.letter(15010, 1, true), NONE);
    }

    private static void nothingIsReadBehindIt() {
        WireGuess x = Wires.of("1" + "0" + "00000" + "0" + "1" + "0" + "11111" + "1");
        guessIs("the first FAILS", x, 15010, 0, 0, 3, 1, NONE);
        Due.is("16: the good one behind it is not read", x.letter(15010, 0, false), NONE);
    }

    private static void mostFrames() {
        WireGuess x = Wires.taken("S1r02");
        for (int k = 0; k < 51; k++) {
            x.hear(0, 1);
            x.hear(1, 6);
        }
        guessIs("51 FRAMES", x, 15010, 51, 1, 0, NONE, 0);
        Due.is("16: the last START", x.letter(15010, 50, true), 352);
        Due.is("16: the last LETTER", x.letter(15010, 50, false), 31);
        Due.is("16: behind it", x.letter(15010, 51, false), NONE);
        x.hear(0, 1);
        guessIs("360 TICKS, the last a START", x, 15010, 51, 0, 4, 359, NONE);
    }

    private static void leastAndGreatestLetter() {
        for (int d = 5; d <= 8; d++) {
            int code = Wires.code(2, d, 0, 1, 0);
            WireGuess x = new WireGuess();
            x.send(code, 0);
            x.send(code, 255);
            x.send(code, 1 << d - 1);
            Due.is("16: the least", x.letter(code, 0, false), 0);
            Due.is("16: the greatest", x.letter(code, 1, false), (1 << d) - 1);
            Due.is("16: the highest bit", x.letter(code, 2, false), 1 << d - 1);
        }
        WireGuess x = Wires.of("0" + "1" + "01111" + "0");
        Due.is("16: turned over, the lowest bit", x.letter(15011, 0, false), 1);
    }

    private static void letterNumbers() {
        WireGuess x = new WireGuess();
        x.send(35010, 9);
        x.send(35010, 10);
        int[] none = {-1, 2, 3, 50, 51, 52, 59, 60, 61};
        for (int i : none) {
            Due.is("16: letter(35010, " + i + ")", x.letter(35010, i, false), NONE);
            Due.is("16: its START", x.letter(35010, i, true), NONE);
        }
        for (int i : FAR) {
            Due.is("16: letter(35010, " + i + ")", x.letter(35010, i, false), NONE);
            Due.is("16: its START", x.letter(35010, i, true), NONE);
        }
        Due.is("16: i 0", x.letter(35010, 0, false), 9);
        Due.is("16: i 1", x.letter(35010, 1, false), 10);
        Due.is("16: START of 0", x.letter(35010, 0, true), 3);
        Due.is("16: START of 1", x.letter(35010, 1, true), 27);
        Due.is("16: BAD, whatever i is", x.letter(35012, -1, false), BAD);
    }

    /** Bits that take turns: a TICK in the middle is b / 2 off one end, the rest off the other. */
    private static void marginOfEachBit() {
        for (int b = 1; b <= 16; b++) {
            int code = Wires.code(b, 8, 0, 1, 0);
            WireGuess x = new WireGuess();
            x.send(code, 0b01010101);
            Due.is("15: MARGIN by " + b, x.guess(code, 4), Math.min(b / 2, b - 1 - b / 2));
        }
    }

    /** START and d ZEROS are one RUN; the stop is another. Each end comes nearer by itself. */
    private static void marginByBothEnds() {
        String ahead = "1".repeat(9);
        readIs("three off either", ahead + "0".repeat(42) + "1".repeat(9), 75010, 1, 1, 0, NONE, 3);
        readIs("the last ZERO is the last TICK", ahead + "0".repeat(39) + "1".repeat(12), 75010,
            1, 1, 0, NONE, 0);
        readIs("one off it", ahead + "0".repeat(40) + "1".repeat(11), 75010, 1, 1, 0, NONE, 1);
        readIs("the stop is the first TICK", ahead + "0".repeat(45) + "1".repeat(9), 75010,
            1, 1, 0, NONE, 0);
        readIs("one off it", ahead + "0".repeat(44) + "1".repeat(9), 75010, 1, 1, 0, NONE, 1);
    }

    private static void marginByTheEndsOfTheWire() {
        String ahead = "1" + "0".repeat(42);
        for (int n = 4; n <= 9; n++) {
            readIs("the last RUN of " + n, ahead + "1".repeat(n), 75010, 1, 1, 0, NONE,
                Math.min(3, n - 4));
        }
        readIs("not looked at: the first RUN", "1" + "0".repeat(42) + "1".repeat(30), 75010,
            1, 1, 0, NONE, 3);
    }

    private static void marginIsTheLeastOfAllFrames() {
        String wide = "1".repeat(7) + "0".repeat(42) + "1".repeat(7);
        String narrow = "1".repeat(7) + "0".repeat(40) + "1".repeat(9);
        readIs("both wide", wide + wide, 75010, 2, 1, 0, NONE, 3);
        readIs("the first narrow", narrow + wide, 75010, 2, 1, 0, NONE, 1);
        readIs("the second narrow", wide + narrow, 75010, 2, 1, 0, NONE, 1);
    }

    private static void marginOfWhatDoesNotFit() {
        WireGuess x = new WireGuess();
        x.send(58010, 0);
        Due.is("15: MARGIN", x.guess(58010, 4), 2);
        x.hear(0, 3);
        Due.is("15: it reads one FRAME", x.guess(58010, 0), 1);
        Due.is("15: no MARGIN, as it FAILS", x.guess(58010, 4), NONE);
        Due.is("15: no MARGIN of nothing", new WireGuess().guess(58010, 4), NONE);
    }

    /** Nothing of what FAILED ahead is left where there is no START. */
    private static void eachCallByItself() {
        WireGuess x = Wires.of("11110");
        guessIs("it FAILS", x, 15010, 0, 0, 4, 4, NONE);
        guessIs("it ENDS", x, 15011, 0, 0, 0, NONE, NONE);
        guessIs("it FAILS again", x, 15010, 0, 0, 4, 4, NONE);
        x.cut(1);
        Due.is("15: behind cut(), by what", x.guess(15010, 2), 0);
        x.undo();
        Due.is("15: behind undo(), by what", x.guess(15010, 2), 4);
        x.cut(1);
        Due.is("15: behind cut(), where", x.guess(15010, 3), NONE);
        x = Wires.of("10111111");
        guessIs("it FITS", x, 15010, 1, 1, 0, NONE, 0);
        guessIs("none by this", x, 15011, 0, 0, 4, 2, NONE);
        x.flip(1);
        guessIs("it ENDS", x, 15010, 0, 0, 0, NONE, NONE);
        Due.is("16: no LETTER is left", x.letter(15010, 0, false), NONE);
    }
}
