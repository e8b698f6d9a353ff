import java.io.IOException;
import java.nio.file.Files;
import java.nio.file.Path;
import java.util.List;

/**
 * The document from its first line to its last: each sentence is quoted in its row, and held
 * against the class by its plain words. That no sentence is left out is seen by ../shared/DOC.md
 * itself, as the quotes together must be the whole of it (but for headings and the face, which
 * FaceTest has).
 */
public final class DocumentTest {
    private static final int UNKNOWN = Wires.UNKNOWN, BAD = Wires.BAD, LATE = Wires.LATE,
        FULL = Wires.FULL, NONE = Wires.NONE;

    /** 15010, 15020, 15110 read 31 here, 16010 reads 63, and no other guess FITS. */
    private static final String FOUR_FIT = "101111111";

    private static final StringBuilder quoted = new StringBuilder();
    private static String sentence = "";

    private DocumentTest() {
    }

    public static void main(String[] args) throws IOException {
        whatItIs();
        theWire();
        theText();
        guesses();
        starts();
        frames();
        margins();
        doings();
        acts();
        bestAndAlike();
        offAndWidth();
        judged();
        known();
        shares();
        chances();
        drawnOnes();
        slots();
        morePlainlyRead();
        morePlainlyRuns();
        morePlainlyChances();
        refusals();
        theInterface();
        promisesOfTheTake();
        promisesOfTheWire();
        promisesOfActs();
        promisesOfGuesses();
        promisesOfKnown();
        promisesOfChances();
        promisesOfSlots();
        notPromised();
        nothingIsLeftOut();
        Due.close("DocumentTest");
    }

    /** The words of the document that what follows is about. */
    private static void says(String words) {
        quoted.append(words).append(' ');
        sentence = words.length() > 60 ? words.substring(0, 60) + " .." : words;
    }

    private static void is(String call, long got, long want) {
        Due.is("\"" + sentence + "\": " + call, got, want);
    }

    private static void wireIs(WireGuess x, String want) {
        Wires.wireIs("\"" + sentence + "\"", x, want);
    }

    private static void faultIs(String text, int want) {
        is("fault() of " + text, Wires.written(text).fault(), want);
    }

    /** What guess() tells: FRAMES, FITS, by what it FAILS, where, MARGIN. */
    private static void readIs(String levels, int code, int... want) {
        WireGuess x = Wires.of(levels);
        for (int what = 0; what < want.length; what++) {
            is(levels + ", guess(" + code + ", " + what + ")", x.guess(code, what), want[what]);
        }
    }

    private static void judgeIs(WireGuess x, int n, long row, int want) {
        is("judge(" + n + ", " + row + ")", x.judge(n, row), want);
    }

    private static void shareIs(WireGuess x, int place, int above, int below) {
        is("share(" + place + ", true)", x.share(place, true), above);
        is("share(" + place + ", false)", x.share(place, false), below);
    }

    private static void chanceIs(WireGuess x, int code, int n, int tenths, int above, int below) {
        String call = "chance(" + code + ", " + n + ", " + tenths + ", ";
        is(call + "true)", x.chance(code, n, tenths, true), above);
        is(call + "false)", x.chance(code, n, tenths, false), below);
    }

    // ---- What it is; Terms, part 1

    private static void whatItIs() {
        says("A signal on one wire that nobody told anything of: how high it stood tick by "
            + "tick; guesses of how long a bit is, how many are a letter, by what parity, how "
            + "many stops, turned over or not, each refuted where it does not fit, ranked by "
            + "how many letters it reads and how far from edges it looks; told as a text with "
            + "the first fault, letter by letter; ticks heard, letters sent by a guess, ticks "
            + "flipped, all undone; what each guess reads, where it fails, the best one, those "
            + "that read alike; the length of a bit by widths; told doings judged; which "
            + "guesses are left by letters that are known; shares of what is known in what it "
            + "rules out, ticks flipped by chance, letters by a seed.");
        says("======== 1 THE WIRE is a row of LEVELS (0 or 1), one for each TICK 0, 1, ..");
        WireGuess x = Wires.of("011");
        is("level(0)", x.level(0), 0);
        is("level(1)", x.level(1), 1);
        is("level(2)", x.level(2), 1);
        is("level(3)", x.level(3), UNKNOWN);
        says("An object is used for at most 512 calls after it has been made; what later calls "
            + "answer is free.");
        x = new WireGuess();
        for (int call = 1; call <= 360; call++) {
            is("call " + call, x.hear(call % 2, 1), call);
        }
        for (int call = 361; call <= 511; call++) {
            is("call " + call, x.flip(7), call % 2);
        }
        is("call 512", x.undo(), 13);
    }

    private static void theWire() {
        says("(never more than 360; none at first).");
        is("TICKS at first", new WireGuess().about(0), 0);
        WireGuess x = Wires.high(359);
        is("the 360th", x.hear(0, 1), 360);
        is("one more", x.hear(0, 1), FULL);
        is("by a letter", x.send(15010, 0), FULL);
        says("An EDGE is at TICK t, if its LEVEL is another one than that of t less 1 (t 1 or "
            + "more).");
        String[] levels = {"", "0", "1", "00", "01", "10", "0110", "010101"};
        int[] edges = {0, 0, 0, 0, 1, 1, 2, 5};
        for (int k = 0; k < levels.length; k++) {
            is("EDGES of " + levels[k], Wires.of(levels[k]).about(1), edges[k]);
        }
        says("A RUN is a stretch of TICKS of one LEVEL between EDGES (or the ends).");
        x = Wires.of("0111001");
        int[] runs = {1, 3, 2, 1, NONE};
        for (int i = 0; i < runs.length; i++) {
            is("run(" + i + ")", x.run(i), runs[i]);
        }
    }

    private static void theText() {
        says("THE TEXT is letters (never more than 99).");
        WireGuess x = Wires.written("q".repeat(98));
        is("the 99th", x.write('q'), 99);
        is("the 100th", x.write('q'), FULL);
        says("A TAKE is a TEXT: S, a LEVEL (0 or 1), then RUNS, none or more, each r, then how "
            + "many TICKS (two figures, 01 .. 99): the first one of that LEVEL, each other one "
            + "of the other LEVEL than the one ahead of it; never more than 360 TICKS together.");
        wireIs(Wires.taken("S0"), "");
        wireIs(Wires.taken("S1"), "");
        wireIs(Wires.taken("S0r02r01r03"), "001000");
        wireIs(Wires.taken("S1r02r01r03"), "110111");
        wireIs(Wires.taken("S1r99"), "1".repeat(99));
        is("360", Wires.written("S0r99r99r99r63").take(), 360);
        String[] none = {"", "S", "0r01", "s0", "S2", "S0r", "S0r1", "S0r00", "S0r100", "S0R01",
            "S0r99r99r99r64", "S0r01x"};
        for (String text : none) {
            is("take() of " + text, Wires.written(text).take(), LATE);
        }
        says("(Without blanks.)");
        faultIs(" S0r01", 0);
        faultIs("S 0r01", 1);
        faultIs("S0 r01", 2);
        faultIs("S0r 01", 3);
        faultIs("S0r0 1", 4);
        faultIs("S0r01 ", 5);
        says("FAULT: the place (from 0) of the first letter by which THE TEXT can be no TAKE, "
            + "whatever came behind it (its length set aside; so a figure by which there are "
            + "more than 360 TICKS in any case, an r behind 360); its length, if it is only "
            + "not at its end; NONE: none.");
        faultIs("x0r01", 0);
        faultIs("S0r00r", 4);
        faultIs("S0" + "r11".repeat(32) + "r", 99);
        faultIs("S0r99r99r99r6", 13);
        faultIs("S0r99r99r99r7", 12);
        faultIs("S0r99r99r99r64", 13);
        faultIs("S0r99r99r99r60r0", 16);
        faultIs("S0r99r99r99r60r1", 15);
        faultIs("S0r99r99r99r53r1", 16);
        faultIs("S0r99r99r99r53r10", NONE);
        faultIs("S0r99r99r99r53r11", 16);
        faultIs("S0r99r99r99r63r", 14);
        faultIs("", 0);
        faultIs("S", 1);
        faultIs("S1r", 3);
        faultIs("S1r0", 4);
        faultIs("S1r01", NONE);
    }

    private static void guesses() {
        says("A GUESS is told by a CODE of six figures: b (two figures, 01 .. 16: TICKS of a "
            + "bit), d (5 .. 8: bits of a letter), p (0 no parity, 1 even, 2 odd), s (1, 2: "
            + "stops), i (0, or 1: turned over).");
        for (int b = 0; b <= 18; b++) {
            for (int rest = 0; rest <= 9999; rest += rest < 5000 || rest > 9000 ? 997 : 1) {
                int d = rest / 1000, p = rest / 100 % 10, s = rest / 10 % 10, i = rest % 10;
                boolean good = b >= 1 && b <= 16 && d >= 5 && d <= 8 && p <= 2 && (s == 1 || s == 2)
                    && i <= 1;
                int code = Wires.code(b, d, p, s, i);
                is("guess(" + code + ", 0)", new WireGuess().guess(code, 0), good ? 0 : BAD);
            }
        }
        says("IDLE by it is LEVEL 1 (LEVEL 0, if i is 1); a LEVEL is a ONE, if it is IDLE, a "
            + "ZERO, if it is not.");
        readIs("1" + "0" + "01010" + "1", 15010, 1, 1, 0, NONE, 0);
        is("it reads", Wires.of("10010101").letter(15010, 0, false), 10);
        readIs("0" + "1" + "10101" + "0", 15011, 1, 1, 0, NONE, 0);
        is("turned over it reads", Wires.of("01101010").letter(15011, 0, false), 10);
    }

    private static void starts() {
        says("READ by a GUESS, from TICK 0 on: the next START is the first TICK t, 1 or more, "
            + "from where one is on, that is a ZERO while t less 1 is a ONE; there is none: it "
            + "ENDS.");
        readIs("", 15010, 0, 0, 0, NONE, NONE);
        readIs("0", 15010, 0, 0, 0, NONE, NONE);
        readIs("1111", 15010, 0, 0, 0, NONE, NONE);
        readIs("0001", 15010, 0, 0, 0, NONE, NONE);
        readIs("10", 15010, 0, 0, 4, 1, NONE);
        readIs("00111000", 15010, 0, 0, 4, 5, NONE);
    }

    /** Flips each TICK of a FRAME: only those that are looked at tell anything. */
    private static void lookedAt(int code, int letter) {
        int b = code / 10000, d = code / 1000 % 10, p = code / 100 % 10;
        int bits = Wires.bitsOf(code);
        for (int tick = b + 1; tick <= b + b * (bits - 1) + b / 2; tick++) {
            WireGuess x = new WireGuess();
            x.send(code, letter);
            x.flip(tick);
            int bit = (tick - b) / b;
            boolean looked = (tick - b) % b == b / 2;
            boolean isData = bit >= 1 && bit <= d;
            int failure = !looked || isData && p == 0 ? 0 : bit == 0 ? 1
                : isData || bit == d + 1 && p > 0 ? 2 : 3;
            String call = "send(" + code + ", " + letter + "), flip(" + tick + "), ";
            is(call + "fails by", x.guess(code, 2), failure);
            if (failure == 0) {
                int read = letter & (1 << d) - 1;
                is(call + "reads", x.letter(code, 0, false), looked ? read ^ 1 << bit - 1 : read);
            }
        }
    }

    private static void frames() {
        says("Bits 0, 1, .. of a FRAME are looked at in TICKS t and (b times that number) and "
            + "b / 2 (cut): bit 0; then d bits, the lowest first; then the parity bit, if p is "
            + "1 or 2; then s stops; one by one, in this row.");
        for (int code : Wires.codes()) {
            lookedAt(code, code % 251);
        }
        says("It FAILS there, if that TICK is not there (by 4); if bit 0 is a ONE (by 1); if "
            + "the parity bit is such that the ONES among it and the d bits are odd in number, "
            + "p being 1, or even, p being 2 (by 2); if a stop is a ZERO (by 3).");
        readIs("1" + "0" + "00000", 15010, 0, 0, 4, 1, NONE);
        readIs("1" + "01" + "0000000000" + "11", 25010, 0, 0, 1, 1, NONE);
        readIs("1" + "0" + "11000" + "1" + "1", 15110, 0, 0, 2, 1, NONE);
        readIs("1" + "0" + "11000" + "0" + "1", 15110, 1, 1, 0, NONE, 0);
        readIs("1" + "0" + "11000" + "0" + "1", 15210, 0, 0, 2, 1, NONE);
        readIs("1" + "0" + "11000" + "1" + "1", 15210, 1, 1, 0, NONE, 0);
        readIs("1" + "0" + "11000" + "0", 15010, 0, 0, 3, 1, NONE);
        readIs("1" + "0" + "11000" + "10", 15020, 0, 0, 3, 1, NONE);
        readIs("1" + "0" + "11000" + "1", 15020, 0, 0, 4, 1, NONE);
        says("Else there is a FRAME, its LETTER the number that the d bits tell (ONE is 1), "
            + "and one is on from the TICK of its last stop.");
        WireGuess x = Wires.of("1" + "0" + "10110" + "1" + "0" + "01000" + "1");
        is("the first LETTER", x.letter(15010, 0, false), 13);
        is("the second LETTER", x.letter(15010, 1, false), 2);
        is("its START", x.letter(15010, 1, true), 8);
        x = Wires.of("111" + "000" + "000000000000000" + "11" + "000" + "111111111111111" + "111");
        is("a START ahead of the stop's end", x.letter(35010, 1, true), 23);
        says("It FITS, if it ENDS behind one FRAME or more.");
        readIs("1" + "0" + "00000" + "1", 15010, 1, 1, 0, NONE, 0);
        readIs("1" + "0" + "00000" + "1" + "0", 15010, 1, 0, 4, 8, NONE);
        readIs("11111111", 15010, 0, 0, 0, NONE, NONE);
    }

    private static void margins() {
        says("MARGIN of a GUESS that FITS: the least number of TICKS that any TICK that was "
            + "looked at in FRAMES lies off the nearer end of its RUN (0: it is the first or "
            + "the last TICK of it).");
        for (int b = 1; b <= 16; b++) {
            WireGuess x = new WireGuess();
            int code = Wires.code(b, 6, 0, 1, 0);
            x.send(code, 0b010101);
            is("MARGIN of RUNS of " + b, x.guess(code, 4), Math.min(b / 2, b - 1 - b / 2));
        }
        WireGuess x = new WireGuess();
        x.send(78010, 255);
        is("of 7 TICKS", x.guess(78010, 4), 3);
        x.cut(2);
        is("the last RUN is longer than a stop", x.guess(78010, 4), 1);
        x.cut(1);
        is("its last TICK", x.guess(78010, 4), 0);
    }

    private static void doings() {
        says("HEARD: n TICKS of a LEVEL come behind THE WIRE.");
        WireGuess x = Wires.of("10");
        x.hear(0, 2);
        x.hear(1, 3);
        wireIs(x, "1000111");
        says("SENT: by a GUESS a LETTER (0 .. 255; its lowest d bits): b TICKS IDLE, then the "
            + "FRAME of it, each bit for b TICKS (bit 0 a ZERO, the parity bit as it must be, "
            + "stops ONES), come behind THE WIRE.");
        x = Wires.of("0");
        is("TICKS", x.send(25120, 0b11100010), 21);
        wireIs(x, "0" + "11" + "00" + "0011000000" + "11" + "1111");
        x = Wires.of("0");
        is("TICKS", x.send(36211, 0b11000011), 31);
        wireIs(x, "0" + "000" + "111" + "000000111111111111" + "000" + "000");
        for (int code : Wires.codes()) {
            x = Wires.of("0011");
            x.send(code, 173);
            is("send(" + code + ", 173)", x.about(0), 4 + Wires.ticksSent(code));
            if (code % 10 == 0) {
                is("it FITS", x.guess(code, 1), 1);
                is("it reads", x.letter(code, 0, false), 173 & (1 << code / 1000 % 10) - 1);
            }
        }
        says("FLIPPED: the LEVEL of one TICK is the other one.");
        x = Wires.of("0010");
        x.flip(1);
        x.flip(2);
        wireIs(x, "0100");
    }

    private static void acts() {
        says("ACTS (HEARD; SENT; FLIPPED; CUT: so many of the last TICKS are gone) are a row "
            + "(never more than 14; if it has 14, the first one is forgotten ahead of the "
            + "next); the last one can be undone.");
        WireGuess x = Wires.taken("S1r02r02");
        x.hear(0, 1);
        x.send(15011, 31);
        x.flip(3);
        x.cut(9);
        wireIs(x, "1101");
        is("ACTS", x.about(8), 4);
        x.undo();
        wireIs(x, "11010" + "0" + "1" + "00000" + "0");
        x.undo();
        wireIs(x, "11000" + "0" + "1" + "00000" + "0");
        x.undo();
        wireIs(x, "11000");
        x.undo();
        wireIs(x, "1100");
        for (int k = 0; k < 14; k++) {
            x.hear(k % 2, 1);
        }
        is("ACTS", x.about(8), 14);
        x.flip(0);
        x.cut(17);
        is("ACTS", x.about(8), 14);
        for (int left = 13; left >= 0; left--) {
            is("undo()", x.undo(), left);
        }
        is("undo() of what is forgotten", x.undo(), LATE);
        wireIs(x, "110001");
        says("Each that is not refused is an ACT.");
        x = Wires.of("10");
        x.hear(2, 1);
        x.hear(1, 0);
        x.send(15010, 256);
        x.send(0, 1);
        x.flip(2);
        x.cut(3);
        is("ACTS behind refusals", x.about(8), 2);
    }

    // ---- Terms, part 2

    private static void bestAndAlike() {
        says("======== 2 In what follows nothing is changed.");
        for (int what = 2; what <= 5; what++) {
            int asked = what;
            Twins.same("about(" + what + ")", Twins.SOME, x -> "" + x.about(asked));
        }
        Twins.same("off(3)", Twins.SOME, x -> "" + x.off(3));
        Twins.same("judge", Twins.SOME, x -> "" + x.judge(3, 110520014002L));
        says("BEST: of GUESSES that FIT that of the greatest MARGIN, of like ones that of most "
            + "FRAMES, of like ones the least CODE; NONE.");
        String[] wires = {"", "1111", "10111111", FOUR_FIT, "1".repeat(9) + "0".repeat(9)
            + "1".repeat(90), "111000111000000111111000000111111111000111111",
            "1" + "0111111".repeat(5), "0000111100001111111100000000111100001111000000"};
        for (String levels : wires) {
            Fit best = null;
            for (Fit fit : Fit.of(levels)) {
                best = best == null || fit.isBetterThan(best) ? fit : best;
            }
            is("BEST of " + levels, Wires.of(levels).about(3), best == null ? NONE : best.code);
        }
        is("of like ones the least CODE", Wires.of(FOUR_FIT).about(3), 15010);
        says("ALIKE: GUESSES that FIT and read just the same row of LETTERS as BEST does (that "
            + "one, too): how many (0: none FITS).");
        for (String levels : wires) {
            is("ALIKE of " + levels, Wires.of(levels).about(4), alike(levels));
        }
        is("ALIKE of " + FOUR_FIT, Wires.of(FOUR_FIT).about(4), 3);
        is("ALIKE of nothing", new WireGuess().about(4), 0);
    }

    private static int alike(String levels) {
        List<Fit> fits = Fit.of(levels);
        int best = Wires.of(levels).about(3);
        int alike = 0;
        for (Fit one : fits) {
            for (Fit other : fits) {
                alike += one.code == best && other.letters.equals(one.letters) ? 1 : 0;
            }
        }
        return alike;
    }

    private static void offAndWidth() {
        says("OFF of a length b (1 .. 16): the sum over all RUNS but the first and the last "
            + "one of how far their TICKS are off the nearest multiple of b (1 times b at "
            + "least); WIDTH: the b by which OFF is least; of like ones the greatest.");
        WireGuess x = Wires.taken("S0r50r06r09r15r50");
        int[] off = {0, 2, 0, 4, 2, 6, 4, 4, 6, 10, 11, 12, 13, 14, 15, 18};
        for (int b = 1; b <= 16; b++) {
            is("off(" + b + ")", x.off(b), off[b - 1]);
        }
        is("WIDTH", x.about(5), 3);
        is("WIDTH of 12, 8", Wires.taken("S0r50r12r08r50").about(5), 4);
        is("WIDTH of 8", Wires.taken("S0r05r08r05").about(5), 8);
        is("WIDTH of 17", Wires.taken("S0r05r17r05").about(5), 1);
        is("WIDTH of 32", Wires.taken("S0r05r32r05").about(5), 16);
    }

    private static void judged() {
        says("JUDGED: n doings (1 .. 3), told as four figures each, the first doing's the "
            + "highest of row (1, a LEVEL, two figures: so many TICKS (1 .. 99) are HEARD; 2, "
            + "three figures: that TICK is FLIPPED; 3, three figures: so many EDGES there are; "
            + "4, three figures: so many TICKS are CUT; 5, two figures b, 1 or 0: BEST is of a "
            + "bit of b TICKS, or not (NONE is not); 6, three figures: the first LETTER that "
            + "BEST reads is that): the place (from 0) of the first that can not be (or is not "
            + "so), what is ahead of it being done; NONE: none.");
        WireGuess x = Wires.of("110");
        judgeIs(x, 1, 1001, NONE);
        judgeIs(x, 1, 1000, 0);
        judgeIs(x, 1, 1299, 0);
        judgeIs(x, 1, 2002, NONE);
        judgeIs(x, 1, 2003, 0);
        judgeIs(x, 1, 3001, NONE);
        judgeIs(x, 1, 3002, 0);
        judgeIs(x, 1, 4003, NONE);
        judgeIs(x, 1, 4004, 0);
        judgeIs(x, 1, 4000, 0);
        judgeIs(x, 1, 5010, NONE);
        judgeIs(x, 1, 5011, 0);
        judgeIs(x, 1, 5001, 0);
        judgeIs(x, 1, 5012, 0);
        judgeIs(x, 1, 6000, 0);
        judgeIs(x, 1, 7000, 0);
        judgeIs(x, 3, 110130025011L, 2);
        judgeIs(x, 3, 119930023002L, NONE);
        x = Wires.of("1" + "0" + "10110");
        judgeIs(x, 2, 11015011L, NONE);
        judgeIs(x, 2, 11016013L, NONE);
        judgeIs(x, 2, 11016012L, 1);
        judgeIs(x, 3, 110120046009L, NONE);
        says("1, 2, 4 are done, 3, 5, 6 asked.");
        judgeIs(x, 3, 400320043000L, 1);
        judgeIs(x, 3, 400320003002L, NONE);
        judgeIs(x, 3, 300550106009L, 2);
        wireIs(x, "1010110");
    }

    // ---- Terms, part 3

    private static void known() {
        says("======== 3 KNOWN: that LETTER number i (0 .. 9) that was sent is v (0 .. 255): "
            + "never more than 5, none at first.");
        WireGuess x = Wires.of(FOUR_FIT);
        is("at first", x.about(9), 0);
        for (int k = 1; k <= 5; k++) {
            is("know(0, 63)", x.know(0, 63), k);
        }
        is("the sixth", x.know(0, 63), FULL);
        says("LEFT: GUESSES that FIT and read all that is KNOWN so: how many; the least CODE; "
            + "NONE.");
        is("LEFT by 63", x.about(6), 1);
        is("the least", x.about(7), 16010);
        x.forget();
        x.know(0, 31);
        is("LEFT by 31", x.about(6), 3);
        is("the least", x.about(7), 15010);
        x.know(0, 63);
        is("LEFT by both", x.about(6), 0);
        is("the least", x.about(7), NONE);
        x = Wires.of("1" + "0" + "11111" + "1" + "0");
        x.know(0, 31);
        is("15010 reads it", x.letter(15010, 0, false), 31);
        is("LEFT, though 15010 does not FIT", x.about(7), NONE);
    }

    private static void shares() {
        says("SHARE of what is KNOWN (by its place, from 0): if those come one by one, in each "
            + "order as likely: by how many fewer GUESSES are LEFT in the mean when it has "
            + "come: a FRACTION.");
        WireGuess x = Wires.of(FOUR_FIT);
        x.know(0, 31);
        shareIs(x, 0, 1, 1);
        x.know(0, 63);
        shareIs(x, 0, 1, 1);
        shareIs(x, 1, 3, 1);
        x.know(1, 0);
        // 16010 goes by the first or the third, the other three by the second or the third.
        shareIs(x, 0, 1, 2);
        shareIs(x, 1, 3, 2);
        shareIs(x, 2, 2, 1);
    }

    private static void chances() {
        says("CHANCE of a GUESS for n (0 .. 6): the first TICK behind each of the first n "
            + "EDGES (as many as there are; the TICK at the EDGE itself) is FLIPPED by x "
            + "tenths (0 .. 10), by itself: that it FITS: a FRACTION.");
        WireGuess x = Wires.of("1" + "0" + "11111" + "1" + "1");
        // TICK 1 flipped alone leaves no START, with TICK 2 a START at 2: place for 15010 only.
        // TICK 2 flipped alone is another letter, of odd ONES.
        chanceIs(x, 15110, 0, 4, 1, 1);
        chanceIs(x, 15110, 1, 4, 3, 5);
        chanceIs(x, 15110, 2, 4, 9, 25);
        chanceIs(x, 15110, 6, 4, 9, 25);
        chanceIs(x, 15010, 2, 4, 19, 25);
        chanceIs(x, 15110, 6, 0, 1, 1);
        chanceIs(x, 15110, 6, 10, 0, 1);
    }

    /** The seed by which v is drawn next: the step of THE SEED undone. */
    private static long seedFor(long v) {
        long inverse = 1;
        for (int k = 0; k < 6; k++) {
            inverse *= 2 - 6364136223846793005L * inverse;
        }
        return ((v << 33) - 1442695040888963407L) * inverse;
    }

    private static int drawnBy(long v) {
        WireGuess x = new WireGuess();
        x.seed(seedFor(v));
        return x.drawn(15010, 1);
    }

    private static void drawnOnes() {
        says("DRAWN by THE SEED for a GUESS: m times (1 .. 10) x (THE SEED, a long; 0 at "
            + "first) becomes x * 6364136223846793005L + 1442695040888963407L (64 bits, "
            + "wrapping); v is (int) (x >>> 33): the LETTER v & 255 is SENT, if there is "
            + "place; all from then on; then, if there is a TICK v / 256 % 400, and v / 131072 "
            + "% 4 is 0, that TICK is FLIPPED: how many FRAMES the GUESS reads (ahead of where "
            + "it ENDS or FAILS) behind each time, added up.");
        WireGuess x = new WireGuess();
        x.drawn(48110, 2);
        is("THE SEED", x.seed(-5), 1442695040888963407L * 6364136223846793005L
            + 1442695040888963407L);
        x.drawn(48110, 1);
        is("THE SEED behind -5", x.seed(0), -5 * 6364136223846793005L + 1442695040888963407L);
        is("nothing is FLIPPED: no TICK 8", drawnBy(256 * 8), 1);
        is("TICK 1 is FLIPPED", drawnBy(256), 0);
        is("TICK 401 % 400 is FLIPPED", drawnBy(256 * 401), 0);
        is("v / 131072 is 1", drawnBy(256 * 801), 1);
        is("v / 131072 is 2", drawnBy(256 * 1201), 1);
        is("v / 131072 is 3", drawnBy(256 * 2001), 1);
        is("v / 131072 is 4", drawnBy(256 * 2401), 0);
        x = Wires.of("1" + "0" + "00000" + "1" + "0");
        x.seed(seedFor(256 * 300));
        is("FRAMES ahead of where it FAILS", x.drawn(15010, 1), 1);
        x = Wires.high(353);
        x.seed(seedFor(256 * 300 + 31));
        is("no place, but TICK 300 is FLIPPED", x.drawn(15010, 1), 1);
        x = new WireGuess();
        is("each time one more, as long as there is place", x.drawn(48110, 10), 49);
        says("(Nothing changes but THE SEED.)");
        x = Wires.of("110");
        x.know(0, 1);
        x.drawn(15010, 10);
        wireIs(x, "110");
        is("ACTS", x.about(8), 2);
        is("KNOWN", x.about(9), 1);
    }

    private static void slots() {
        says("SLOTS 0 .. 1 keep THE WIRE (no ACTS when one goes on).");
        WireGuess x = Wires.of("110");
        is("keep(-1)", x.keep(-1), UNKNOWN);
        is("keep(2)", x.keep(2), UNKNOWN);
        x.keep(0);
        x.cut(2);
        x.keep(1);
        x.flip(0);
        is("ACTS", x.about(8), 4);
        x.again(0);
        wireIs(x, "110");
        is("no ACTS", x.about(8), 0);
        x.again(1);
        wireIs(x, "1");
    }

    // ---- Terms, part 4

    private static void morePlainlyRead() {
        says("======== 4 MORE PLAINLY. A ZERO at TICK 0 is no START.");
        readIs("0" + "00000" + "1", 15010, 0, 0, 0, NONE, NONE);
        readIs("1" + "11111" + "0", 15011, 0, 0, 0, NONE, NONE);
        says("A FRAME that FAILS is no FRAME; nothing is read behind it.");
        String fails = "1" + "0" + "00000" + "0";
        readIs(fails + "1" + "0" + "00000" + "1", 15010, 0, 0, 3, 1, NONE);
        is("its LETTER", Wires.of(fails + "1").letter(15010, 0, false), NONE);
        says("The TICKS that were looked at in a FRAME are 1 and d and s of them, one more "
            + "with parity.");
        for (int code : Wires.codes()) {
            int b = code / 10000;
            WireGuess x = new WireGuess();
            x.send(code, 0);
            // With its last stop's TICK the last one it FITS; without that TICK it is not there.
            x.cut(b - b / 2);
            is("without the last one of " + code, x.guess(code, 2), 4);
            x.undo();
            if (b - b / 2 - 1 > 0) {
                x.cut(b - b / 2 - 1);
            }
            is("with just " + Wires.bitsOf(code) + " of " + code, x.guess(code, 1), 1);
        }
        says("From the TICK of the last stop on a START may be found at the TICK behind it at "
            + "the soonest.");
        readIs("1" + "0" + "00000" + "1" + "0" + "00000" + "1", 15010, 2, 1, 0, NONE, 0);
        says("FITS is looked at for all CODES, 768 of them.");
        int codes = 0;
        for (int code = 0; code <= 200000; code++) {
            codes += new WireGuess().guess(code, 1) == 0 ? 1 : 0;
        }
        is("CODES", codes, 768);
        for (int code : new int[] {15010, 165010, 168221, 88120}) {
            WireGuess x = new WireGuess();
            x.send(code, 1);
            is("FIT, with " + code, x.about(2), Fit.of(Wires.levels(x)).size());
        }
        says("LEVELS of a LETTER: ONE is IDLE.");
        WireGuess x = new WireGuess();
        x.send(15010, 31);
        wireIs(x, "1" + "0" + "11111" + "1");
        x = new WireGuess();
        x.send(15011, 31);
        wireIs(x, "0" + "1" + "00000" + "0");
    }

    private static void morePlainlyRuns() {
        says("OFF of a RUN shorter than b is b less its TICKS.");
        for (int ticks = 1; ticks <= 15; ticks++) {
            WireGuess x = Wires.taken(String.format("S0r20r%02dr20", ticks));
            is("OFF of " + ticks, x.off(16), 16 - ticks);
        }
        says("KNOWN of a LETTER that a GUESS does not read (it has fewer) is not so.");
        WireGuess x = Wires.of(FOUR_FIT);
        x.know(1, 31);
        is("LEFT", x.about(6), 0);
        says("A TICK that is not there FAILS ahead of what it would tell.");
        readIs("10", 25010, 0, 0, 4, 1, NONE);
        readIs("1" + "0" + "11111", 15110, 0, 0, 4, 1, NONE);
        readIs("1" + "0" + "00000", 15010, 0, 0, 4, 1, NONE);
        says("RUNS for MARGINS are those of THE WIRE, the first and the last one, too; with "
            + "fewer than three RUNS each OFF is 0 (WIDTH 16).");
        x = Wires.of("111" + "000" + "111".repeat(5) + "11");
        is("the stop is the last TICK", x.guess(35010, 4), 0);
        x.hear(1, 9);
        is("the last RUN goes on", x.guess(35010, 4), 1);
        String[] few = {"", "1111", "1100000"};
        for (String levels : few) {
            for (int b = 1; b <= 16; b++) {
                is(levels + ", off(" + b + ")", Wires.of(levels).off(b), 0);
            }
            is("WIDTH of " + levels, Wires.of(levels).about(5), 16);
        }
        says("LEFT with nothing KNOWN: all that FIT.");
        is("LEFT", Wires.of(FOUR_FIT).about(6), 4);
        is("FIT", Wires.of(FOUR_FIT).about(2), 4);
    }

    private static void morePlainlyChances() {
        says("CHANCE goes by EDGES of THE WIRE as it is.");
        // TICK 1 flipped takes the EDGE at TICK 2 away, and that TICK is flipped all the same.
        WireGuess x = Wires.of(FOUR_FIT);
        chanceIs(x, 15010, 1, 10, 0, 1);
        chanceIs(x, 15010, 2, 10, 1, 1);
        says("DRAWN: SENT, then FLIPPED, then read, each time.");
        is("TICK 0 of what was SENT is FLIPPED", drawnBy(0), 0);
        is("TICK 6 of what was SENT is FLIPPED", drawnBy(256 * 6), 1);
        is("TICK 7 of what was SENT is FLIPPED", drawnBy(256 * 7), 0);
        says("THE TEXT, KNOWN, THE SEED are not undone or kept; a take() that is LATE changes "
            + "nothing.");
        x = Wires.of("110");
        x.keep(0);
        Wires.writeAll(x, "S1r");
        x.know(2, 3);
        x.seed(77);
        x.undo();
        x.again(0);
        is("letters of THE TEXT", x.about(10), 3);
        is("KNOWN", x.about(9), 1);
        is("THE SEED", x.seed(78), 77);
        Twins.leaves("take()", Twins.FAULTY, y -> y.take(), LATE);
    }

    // ---- Terms, part 5

    private static void refusals() {
        says("======== 5 REFUSALS, of several the first that a call names (in just that row): "
            + "UNKNOWN -1 (there is no such TICK, SLOT, place), BAD -2, LATE -3, FULL -4.");
        is("UNKNOWN", WireGuess.UNKNOWN, -1);
        is("BAD", WireGuess.BAD, -2);
        is("LATE", WireGuess.LATE, -3);
        is("FULL", WireGuess.FULL, -4);
        WireGuess x = Wires.written("q".repeat(99));
        for (int k = 0; k < 5; k++) {
            x.know(k, k);
            x.hear(k % 2, 72);
        }
        is("write(256) of the full", x.write(256), BAD);
        is("know(10, 0) of the full", x.know(10, 0), BAD);
        is("hear(2, 9) of the full", x.hear(2, 9), BAD);
        is("send(15010, 256) of the full", x.send(15010, 256), BAD);
        is("send(15012, 0) of the full", x.send(15012, 0), BAD);
        is("again(2), none was kept", x.again(2), UNKNOWN);
        says("What is refused changes nothing.");
        Twins.leaves("hear(1, 100)", Twins.SOME, y -> y.hear(1, 100), BAD);
        Twins.leaves("send(48110, 0)", Twins.FILLED, y -> y.send(48110, 0), FULL);
        Twins.leaves("flip(360)", Twins.FILLED, y -> y.flip(360), UNKNOWN);
        Twins.leaves("cut(0)", Twins.SOME, y -> y.cut(0), BAD);
        Twins.leaves("undo()", Twins.EMPTY, y -> y.undo(), LATE);
        Twins.leaves("drawn(48110, 11)", Twins.SOME, y -> y.drawn(48110, 11), BAD);
        Twins.leaves("again(0)", Twins.SOME, y -> y.again(0), LATE);
        says("NONE is -9.");
        is("NONE", WireGuess.NONE, -9);
        says("FRACTIONS are told above (upper = true; less than 0, if they are), below, in "
            + "least terms.");
        x = Wires.of("1" + "0" + "11111" + "1");
        int[] below = {1, 10, 5, 10, 5, 2, 5, 10, 5, 10, 1};
        for (int tenths = 0; tenths <= 10; tenths++) {
            chanceIs(x, 15010, 1, tenths, (10 - tenths) * below[tenths] / 10, below[tenths]);
        }
    }

    /** The groups that the interface names have nothing to answer. */
    private static void theInterface() {
        says("Ahead of the calls `write`, `wipe`, `fault`, `take`, `about`, `level`, `run`, "
            + "`off` the interface says: ---- the take.");
        says("Ahead of the calls `hear`, `send`, `flip`, `cut`, `undo` the interface says: "
            + "---- acts.");
        says("Ahead of the calls `guess`, `letter`, `judge` the interface says: ---- guesses.");
        says("Ahead of the calls `know`, `forget`, `share` the interface says: ---- known.");
        says("Ahead of the calls `chance`, `seed`, `drawn` the interface says: ---- chances.");
        says("Ahead of the calls `keep`, `again` the interface says: ---- slots.");
    }

    // ---- Promises 1 to 25

    private static void promisesOfTheTake() {
        says("`WireGuess()`: Nothing heard.");
        is("TICKS", new WireGuess().about(0), 0);
        says("`int write(int letter)`: A letter (0 .. 255) comes behind THE TEXT: how long it "
            + "is.");
        WireGuess x = new WireGuess();
        is("write(0)", x.write(0), 1);
        is("write(255)", x.write(255), 2);
        says("BAD; FULL: there are 99.");
        is("write(-1)", x.write(-1), BAD);
        is("write(256)", x.write(256), BAD);
        is("the 99th", Wires.written("q".repeat(98)).write(9), 99);
        is("the 100th", Wires.written("q".repeat(99)).write(9), FULL);
        says("`int wipe()`: THE TEXT is empty: how long it was.");
        is("wipe()", x.wipe(), 2);
        is("wipe() once more", x.wipe(), 0);
        says("`int fault()`: FAULT; NONE.");
        faultIs("S0r", 3);
        faultIs("S0r10", NONE);
        says("`int take()`: THE TEXT is THE WIRE (no ACTS; what was kept is gone; THE TEXT, "
            + "KNOWN, THE SEED stay): how many TICKS.");
        x = Wires.written("S0r02r01");
        x.hear(1, 5);
        x.keep(0);
        x.keep(1);
        x.know(1, 2);
        x.seed(3);
        is("take()", x.take(), 3);
        wireIs(x, "001");
        is("ACTS", x.about(8), 0);
        is("again(0)", x.again(0), LATE);
        is("again(1)", x.again(1), LATE);
        is("letters of THE TEXT", x.about(10), 8);
        is("KNOWN", x.about(9), 1);
        is("THE SEED", x.seed(0), 3);
        says("LATE: a FAULT.");
        x.write('r');
        is("take()", x.take(), LATE);
    }

    private static void promisesOfTheWire() {
        says("`int about(int what)`: TICKS (what = 0), EDGES (1), GUESSES that FIT (2), BEST "
            + "(3; NONE), ALIKE (4), WIDTH (5), GUESSES that are LEFT (6), the least of these "
            + "(7; NONE), ACTS (8), KNOWN (9), letters of THE TEXT (10).");
        WireGuess x = Wires.of(FOUR_FIT);
        x.know(0, 63);
        x.know(0, 63);
        Wires.writeAll(x, "S0r01");
        int[] told = {9, 2, 4, 15010, 3, 1, 1, 16010, 3, 2, 5};
        for (int what = 0; what <= 10; what++) {
            is("about(" + what + ")", x.about(what), told[what]);
        }
        is("BEST of nothing", new WireGuess().about(3), NONE);
        is("the least of nothing", new WireGuess().about(7), NONE);
        says("BAD.");
        is("about(-1)", x.about(-1), BAD);
        is("about(11)", x.about(11), BAD);
        says("`int level(int tick)`: LEVEL of a TICK.");
        is("level(1)", x.level(1), 0);
        is("level(8)", x.level(8), 1);
        says("UNKNOWN.");
        is("level(9)", x.level(9), UNKNOWN);
        is("level(-1)", x.level(-1), UNKNOWN);
        says("`int run(int i)`: TICKS of the i-th RUN (from 0); NONE: there is none such (for "
            + "any other i, too).");
        is("run(0)", x.run(0), 1);
        is("run(2)", x.run(2), 7);
        is("run(3)", x.run(3), NONE);
        is("run(-1)", x.run(-1), NONE);
        says("`int off(int b)`: OFF.");
        is("off(5)", x.off(5), 4);
        says("BAD: b.");
        is("off(0)", x.off(0), BAD);
        is("off(17)", x.off(17), BAD);
    }

    private static void promisesOfActs() {
        says("`int hear(int level, int n)`: HEARD: how many TICKS there are.");
        WireGuess x = new WireGuess();
        is("hear(1, 99)", x.hear(1, 99), 99);
        is("hear(0, 1)", x.hear(0, 1), 100);
        says("BAD: level (0, 1), n (1 .. 99); FULL: there is no place for n.");
        is("hear(2, 1)", x.hear(2, 1), BAD);
        is("hear(-1, 1)", x.hear(-1, 1), BAD);
        is("hear(1, 0)", x.hear(1, 0), BAD);
        is("hear(1, 100)", x.hear(1, 100), BAD);
        is("no place for 99", Wires.high(262).hear(1, 99), FULL);
        is("place for 98", Wires.high(262).hear(1, 98), 360);
        says("`int send(int code, int letter)`: SENT: how many TICKS there are.");
        is("send(15010, 0)", x.send(15010, 0), 108);
        is("send(168221, 255)", x.send(168221, 255), 108 + 16 * 13);
        says("BAD: code, letter; FULL: there is no place.");
        is("send(15310, 0)", x.send(15310, 0), BAD);
        is("send(15010, 256)", x.send(15010, 256), BAD);
        is("send(15010, -1)", x.send(15010, -1), BAD);
        is("no place", Wires.high(353).send(15010, 0), FULL);
        is("place", Wires.high(352).send(15010, 0), 360);
        says("`int flip(int tick)`: FLIPPED: its LEVEL then.");
        is("flip(0)", x.flip(0), 0);
        is("flip(0) once more", x.flip(0), 1);
        says("UNKNOWN.");
        is("flip(316)", x.flip(316), UNKNOWN);
        is("flip(-1)", x.flip(-1), UNKNOWN);
        says("`int cut(int n)`: CUT: how many TICKS are left.");
        is("cut(16)", x.cut(16), 300);
        says("BAD: n (1 .. how many there are).");
        is("cut(0)", x.cut(0), BAD);
        is("cut(301)", x.cut(301), BAD);
        is("cut(300)", x.cut(300), 0);
        says("`int undo()`: The last ACT is undone: how many are left.");
        is("undo()", x.undo(), 7);
        is("TICKS", x.about(0), 300);
        says("LATE: there is none.");
        is("undo() of nothing", new WireGuess().undo(), LATE);
    }

    private static void promisesOfGuesses() {
        says("`int guess(int code, int what)`: Of a GUESS how many FRAMES it reads ahead of "
            + "where it ENDS or FAILS (what = 0), 1 if it FITS (1), by what it FAILS (2; 0: it "
            + "ENDS), the START of the FRAME that FAILS (3; NONE), its MARGIN (4; NONE: it "
            + "does not FIT).");
        String two = "1" + "0" + "00011" + "1" + "0" + "11000" + "1";
        readIs(two, 15010, 2, 1, 0, NONE, 0);
        readIs(two + "0", 15010, 2, 0, 4, 15, NONE);
        readIs("1111", 15010, 0, 0, 0, NONE, NONE);
        says("BAD: code, what.");
        WireGuess x = Wires.of(two + "0");
        is("guess(15012, 0)", x.guess(15012, 0), BAD);
        is("guess(15010, -1)", x.guess(15010, -1), BAD);
        is("guess(15010, 5)", x.guess(15010, 5), BAD);
        says("`int letter(int code, int i, boolean start)`: The i-th LETTER (from 0) that a "
            + "GUESS reads (start = false), the START of that FRAME (true); NONE: there is "
            + "none such (for any other i, too).");
        is("LETTER 0", x.letter(15010, 0, false), 24);
        is("LETTER 1", x.letter(15010, 1, false), 3);
        is("START 0", x.letter(15010, 0, true), 1);
        is("START 1", x.letter(15010, 1, true), 8);
        is("LETTER 2", x.letter(15010, 2, false), NONE);
        is("START -1", x.letter(15010, -1, true), NONE);
        says("BAD: code.");
        is("letter(15000, 0, false)", x.letter(15000, 0, false), BAD);
        says("`int judge(int n, long row)`: JUDGED; NONE.");
        judgeIs(x, 1, 3007, NONE);
        judgeIs(x, 2, 30072016, 1);
        says("BAD: n, row (0 or more, 4 n figures at most).");
        judgeIs(x, 0, 0, BAD);
        judgeIs(x, 4, 3005, BAD);
        judgeIs(x, 1, -1, BAD);
        judgeIs(x, 1, 0, 0);
        judgeIs(x, 1, 10000, BAD);
        judgeIs(x, 2, 99999999L, 0);
        judgeIs(x, 2, 100000000L, BAD);
        judgeIs(x, 3, 999999999999L, 0);
        judgeIs(x, 3, 1000000000000L, BAD);
    }

    private static void promisesOfKnown() {
        says("`int know(int i, int v)`: KNOWN: how much there is.");
        WireGuess x = Wires.of(FOUR_FIT);
        is("know(0, 31)", x.know(0, 31), 1);
        is("know(9, 255)", x.know(9, 255), 2);
        says("BAD: i (0 .. 9), v (0 .. 255); FULL: 5.");
        is("know(10, 0)", x.know(10, 0), BAD);
        is("know(-1, 0)", x.know(-1, 0), BAD);
        is("know(0, 256)", x.know(0, 256), BAD);
        is("know(0, -1)", x.know(0, -1), BAD);
        for (int k = 3; k <= 5; k++) {
            is("know(0, 31)", x.know(0, 31), k);
        }
        is("the sixth", x.know(0, 31), FULL);
        says("`int forget()`: Nothing is KNOWN: how much there was.");
        is("forget()", x.forget(), 5);
        is("KNOWN", x.about(9), 0);
        is("LEFT", x.about(6), 4);
        says("`int share(int place, boolean upper)`: SHARE.");
        x.know(0, 63);
        shareIs(x, 0, 3, 1);
        says("UNKNOWN: place.");
        is("share(1, true)", x.share(1, true), UNKNOWN);
        is("share(-1, false)", x.share(-1, false), UNKNOWN);
    }

    private static void promisesOfChances() {
        says("`int chance(int code, int n, int x, boolean upper)`: CHANCE.");
        WireGuess x = Wires.of("1" + "0" + "11111" + "1");
        chanceIs(x, 15010, 1, 3, 7, 10);
        says("BAD: code, n, x.");
        is("code", x.chance(15030, 1, 3, true), BAD);
        is("n -1", x.chance(15010, -1, 3, true), BAD);
        is("n 7", x.chance(15010, 7, 3, true), BAD);
        is("x -1", x.chance(15010, 1, -1, false), BAD);
        is("x 11", x.chance(15010, 1, 11, false), BAD);
        says("`long seed(long v)`: THE SEED is v: what it was.");
        is("seed(5)", x.seed(5), 0);
        is("seed(Long.MIN_VALUE)", x.seed(Long.MIN_VALUE), 5);
        is("seed() by which v is 256 * 300", x.seed(seedFor(256 * 300)), Long.MIN_VALUE);
        says("`int drawn(int code, int m)`: DRAWN.");
        is("drawn(15010, 1)", x.drawn(15010, 1), 2);
        says("BAD: code, m.");
        is("code", x.drawn(175010, 1), BAD);
        is("m 0", x.drawn(15010, 0), BAD);
        is("m 11", x.drawn(15010, 11), BAD);
    }

    private static void promisesOfSlots() {
        says("`int keep(int slot)`: THE WIRE is kept: how many TICKS.");
        WireGuess x = Wires.of("110");
        is("keep(0)", x.keep(0), 3);
        says("UNKNOWN.");
        is("keep(2)", x.keep(2), UNKNOWN);
        is("keep(-1)", x.keep(-1), UNKNOWN);
        says("`int again(int slot)`: THE WIRE is as it was kept: how many TICKS.");
        x.hear(1, 1);
        is("again(0)", x.again(0), 3);
        wireIs(x, "110");
        says("UNKNOWN; LATE: none was kept.");
        is("again(2)", x.again(2), UNKNOWN);
        is("again(-1)", x.again(-1), UNKNOWN);
        is("again(1)", x.again(1), LATE);
    }

    private static void notPromised() {
        says("How the state is held inside the object is free, as are the speed of each call, "
            + "the text of toString and the behaviour of equals and hashCode.");
        says("Use of one object from several threads at once is not promised to be safe.");
        says("Nothing is promised beyond the answers and state changes described above, and "
            + "nothing about an object after its 512th call.");
    }

    private static void nothingIsLeftOut() throws IOException {
        Path document = Path.of("../shared/DOC.md");
        if (!Files.isReadable(document)) {
            System.out.println("DocumentTest: no " + document + " to hold the quotes against");
            return;
        }
        String whole = Files.readString(document).replaceAll("(?s)```java.*?```", "")
            .replace("```text", "").replace("```", "").replaceAll("(?m)^#.*$", "");
        String[] due = whole.trim().split("\\s+");
        String[] got = quoted.toString().trim().split("\\s+");
        int same = 0;
        while (same < due.length && same < got.length && due[same].equals(got[same])) {
            same++;
        }
        Due.is("words of the document that are quoted in their row", same, due.length);
        Due.is("words that are quoted", got.length, due.length);
    }
}
