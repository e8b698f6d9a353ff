import java.util.List;

/**
 * Promise 6, BEST and ALIKE: the row in which guesses are ranked, where each step of it decides
 * alone, and what reads alike. All 768 are asked one by one, too.
 */
public final class BestEdgeTest {
    private static final int NONE = Wires.NONE;

    private BestEdgeTest() {
    }

    public static void main(String[] args) {
        allThatFitAreCounted();
        marginAheadOfFrames();
        marginAheadOfFramesOfAGreaterCode();
        framesAheadOfCode();
        codeOfLikeOnes();
        bestOfOne();
        bestIsNoneWhereOnlyFramesAre();
        alikeNotBeyondTheRow();
        alikeNotWithinTheRow();
        alikeByTheLastLetter();
        alikeMustFit();
        alikeByAnotherBit();
        askedOneByOne();
        eachCallByItself();
        Due.close("BestEdgeTest");
    }

    /** What about() tells is what the 768 tell one by one. */
    private static void agrees(String levels) {
        List<Fit> fits = Fit.of(levels);
        Fit best = null;
        for (Fit fit : fits) {
            best = best == null || fit.isBetterThan(best) ? fit : best;
        }
        int alike = 0;
        for (Fit fit : fits) {
            alike += fit.letters.equals(best.letters) ? 1 : 0;
        }
        int least = fits.isEmpty() ? NONE : fits.get(0).code;
        Due.is("6: FIT of " + levels, Wires.of(levels).about(2), fits.size());
        Due.is("6: BEST of " + levels, Wires.of(levels).about(3), best == null ? NONE : best.code);
        Due.is("6: ALIKE of " + levels, Wires.of(levels).about(4), alike);
        Due.is("6: LEFT of " + levels, Wires.of(levels).about(6), fits.size());
        Due.is("6: least LEFT of " + levels, Wires.of(levels).about(7), least);
    }

    private static void fitIs(WireGuess x, int code, int margin, int... letters) {
        Due.is("6: " + code + " FITS", x.guess(code, 1), 1);
        Due.is("6: MARGIN of " + code, x.guess(code, 4), margin);
        Due.is("6: FRAMES of " + code, x.guess(code, 0), letters.length);
        for (int i = 0; i < letters.length; i++) {
            Due.is("6: LETTER " + i + " of " + code, x.letter(code, i, false), letters[i]);
        }
    }

    /** Letters by the shortest and the longest bit, with and without all that may be behind. */
    private static void allThatFitAreCounted() {
        int[] codes = {15010, 15221, 168010, 168221, 165010};
        for (int code : codes) {
            WireGuess x = new WireGuess();
            x.send(code, 86);
            agrees(Wires.levels(x));
        }
        agrees("");
        agrees("1");
        agrees("1".repeat(360));
        agrees(Wires.levels(Wires.everyTickAnEdge()));
    }

    private static void marginAheadOfFrames() {
        String levels = "1111000000001111000000001111111110000000";
        WireGuess x = Wires.of(levels);
        fitIs(x, 18011, 0, 248, 0);
        fitIs(x, 45011, 1, 19);
        Due.is("6: the greater MARGIN, fewer FRAMES, the greater CODE", x.about(3), 45011);
        agrees(levels);
    }

    private static void marginAheadOfFramesOfAGreaterCode() {
        String levels = "10000011100001111100011111000011110001" + "1".repeat(35);
        WireGuess x = Wires.of(levels);
        Due.is("6: MARGIN of the less CODE", x.guess(47110, 4), 1);
        Due.is("6: FRAMES of the less CODE", x.guess(47110, 0), 1);
        Due.is("6: MARGIN of the greater CODE", x.guess(55010, 4), 0);
        Due.is("6: FRAMES of the greater CODE", x.guess(55010, 0), 2);
        Due.is("6: the greater MARGIN, fewer FRAMES, the less CODE", x.about(3), 47110);
        agrees(levels);
    }

    private static void framesAheadOfCode() {
        String levels = "100111100000001111111000111111100011110000001111111000011001"
            + "1".repeat(32);
        WireGuess x = Wires.of(levels);
        Due.is("6: MARGIN of the less CODE", x.guess(36120, 4), 0);
        Due.is("6: FRAMES of the less CODE", x.guess(36120, 0), 2);
        Due.is("6: MARGIN of the greater CODE", x.guess(37010, 4), 0);
        Due.is("6: FRAMES of the greater CODE", x.guess(37010, 0), 3);
        Due.is("6: most FRAMES", x.about(3), 37010);
        agrees(levels);
    }

    private static void codeOfLikeOnes() {
        String levels = "101111111";
        WireGuess x = Wires.of(levels);
        fitIs(x, 15010, 0, 31);
        fitIs(x, 15020, 0, 31);
        fitIs(x, 15110, 0, 31);
        fitIs(x, 16010, 0, 63);
        Due.is("6: the least CODE", x.about(3), 15010);
        Due.is("6: ALIKE, that one too", x.about(4), 3);
        agrees(levels);
    }

    private static void bestOfOne() {
        WireGuess x = Wires.of("10111111");
        Due.is("6: one FITS", x.about(2), 1);
        Due.is("6: with MARGIN 0", x.guess(15010, 4), 0);
        Due.is("6: it is BEST", x.about(3), 15010);
        Due.is("6: ALIKE", x.about(4), 1);
    }

    /** FRAMES are read, but all guesses FAIL behind them. */
    private static void bestIsNoneWhereOnlyFramesAre() {
        String levels = "1" + "0" + "00110" + "1" + "0";
        WireGuess x = Wires.of(levels);
        Due.is("6: one reads a FRAME", x.guess(15010, 0), 1);
        Due.is("6: none FITS", x.about(2), 0);
        Due.is("6: BEST is NONE", x.about(3), NONE);
        Due.is("6: ALIKE is 0", x.about(4), 0);
        agrees(levels);
    }

    private static void alikeNotBeyondTheRow() {
        String levels = "00111111111111000001000001111000000000111111111111";
        WireGuess x = Wires.of(levels);
        fitIs(x, 25010, x.guess(25010, 4), 18, 24);
        Due.is("6: BEST reads 18 alone", x.about(3), 55010);
        Due.is("6: its first", x.letter(55010, 0, false), 18);
        Due.is("6: 18 and 24 are not alike", x.about(4), 1);
        agrees(levels);
    }

    private static void alikeNotWithinTheRow() {
        String levels = "000011111100000010000011111111111";
        WireGuess x = Wires.of(levels);
        fitIs(x, 15010, 0, 0, 16);
        fitIs(x, 25010, 0, 0);
        Due.is("6: BEST reads 0 and 16", x.about(3), 15010);
        Due.is("6: 0 alone is not alike", x.about(4), 1);
        agrees(levels);
    }

    private static void alikeByTheLastLetter() {
        String levels = "11010000011001111100000";
        WireGuess x = Wires.of(levels);
        fitIs(x, 16211, 0, 31, 48);
        fitIs(x, 16221, 0, 31, 48);
        fitIs(x, 17011, 0, 31, 112);
        Due.is("6: BEST", x.about(3), 16211);
        Due.is("6: two are alike", x.about(4), 2);
        agrees(levels);
    }

    private static void alikeMustFit() {
        String levels = "000000111110000001111111100000001110000011000";
        WireGuess x = Wires.of(levels);
        Due.is("6: BEST", x.about(3), 55021);
        Due.is("6: it reads 9", x.letter(55021, 0, false), 9);
        Due.is("6: this reads 9 and FAILS", x.guess(55011, 2), 1);
        Due.is("6: this reads 9 and FAILS", x.letter(55011, 0, false), 9);
        Due.is("6: it is not alike", x.about(4), 2);
        agrees(levels);
    }

    private static void alikeByAnotherBit() {
        String levels = "111111111000000000011111111111001111111111111000000000000";
        WireGuess x = Wires.of(levels);
        Due.is("6: BEST", x.about(3), 37111);
        Due.is("6: one of another bit reads the same", x.letter(45011, 0, false), 0);
        Due.is("6: ALIKE", x.about(4), 10);
        agrees(levels);
    }

    private static void askedOneByOne() {
        int[] codes = {17110, 26021, 35210, 48120, 57011, 66110, 78021};
        for (int code : codes) {
            WireGuess x = new WireGuess();
            for (int k = 0; k < 3; k++) {
                x.send(code, 37 * k + code / 10000);
            }
            agrees(Wires.levels(x));
            x.flip(x.about(0) / 2);
            agrees(Wires.levels(x));
        }
    }

    /** Nothing of what was asked of another wire is left. */
    private static void eachCallByItself() {
        for (int what = 2; what <= 7; what++) {
            for (int ahead = 2; ahead <= 7; ahead++) {
                WireGuess x = Wires.of("101111111");
                x.about(ahead);
                x.flip(1);
                String call = "6: about(" + what + ") behind about(" + ahead + ")";
                Due.is(call + " of silence", x.about(what), Wires.high(9).about(what));
                x.undo();
                Due.is(call + " once more", x.about(what), Wires.of("101111111").about(what));
            }
        }
        WireGuess x = Wires.of("11111111");
        Due.is("6: LEFT of silence", x.about(6), 0);
        Due.is("6: ALIKE of silence", x.about(4), 0);
        x.flip(1);
        Due.is("6: ALIKE, nothing else asked", x.about(4), 1);
    }
}
