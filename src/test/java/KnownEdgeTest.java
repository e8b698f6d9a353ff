import java.util.List;

/** Promises 18 to 20, and what is LEFT of promise 6: the bounds of what is KNOWN. */
public final class KnownEdgeTest {
    private static final int UNKNOWN = Wires.UNKNOWN, BAD = Wires.BAD, FULL = Wires.FULL,
        NONE = Wires.NONE;
    private static final int[] FAR = {Wires.LEAST, Wires.LEAST + 1, -1000, 1000, Wires.GREATEST - 1,
        Wires.GREATEST};

    /** 15010 reads 31 here, and no other guess FITS. */
    private static final String ONE_FITS = "10111111";

    /** 15010, 15020, 15110 read 31 here, 16010 reads 63, and no other guess FITS. */
    private static final String FOUR_FIT = "101111111";

    private KnownEdgeTest() {
    }

    public static void main(String[] args) {
        numbersFrom0To9();
        valuesFrom0To255();
        neverMoreThan5();
        theSameCountsOnceMore();
        forgetOfNoneAndFive();
        leftWithNothingKnown();
        leftByTheFirstAndTheTenth();
        leftByALetterThatIsNotRead();
        leftByALetterTooGreat();
        leftByTheLeastAndTheGreatest();
        leftByWhatCanNotBoth();
        leftMustFit();
        leastOfThoseLeft();
        placesFrom0();
        shareOfNothingRuledOut();
        shareAlone();
        shareWhereNoneFits();
        shareOfOneToFive();
        shareInLeastTerms();
        sharesAddUp();
        Due.close("KnownEdgeTest");
    }

    private static void numbersFrom0To9() {
        for (int i = 0; i <= 9; i++) {
            Due.is("18: know(" + i + ", 1)", new WireGuess().know(i, 1), 1);
        }
        WireGuess x = new WireGuess();
        Due.is("18: know(-1, 1)", x.know(-1, 1), BAD);
        Due.is("18: know(10, 1)", x.know(10, 1), BAD);
        for (int i : FAR) {
            Due.is("18: know(" + i + ", 1)", x.know(i, 1), BAD);
        }
        Due.is("18: nothing is KNOWN", x.about(9), 0);
    }

    private static void valuesFrom0To255() {
        Due.is("18: know(1, 0)", new WireGuess().know(1, 0), 1);
        Due.is("18: know(1, 255)", new WireGuess().know(1, 255), 1);
        WireGuess x = new WireGuess();
        Due.is("18: know(1, -1)", x.know(1, -1), BAD);
        Due.is("18: know(1, 256)", x.know(1, 256), BAD);
        for (int v : FAR) {
            Due.is("18: know(1, " + v + ")", x.know(1, v), BAD);
        }
        Due.is("18: nothing is KNOWN", x.about(9), 0);
    }

    private static void neverMoreThan5() {
        WireGuess x = new WireGuess();
        for (int k = 1; k <= 5; k++) {
            Due.is("18: number " + k, x.know(k, k), k);
        }
        Due.is("18: the sixth", x.know(6, 6), FULL);
        Due.is("18: KNOWN", x.about(9), 5);
        Due.is("18: the sixth is no place", x.share(5, true), UNKNOWN);
    }

    private static void theSameCountsOnceMore() {
        WireGuess x = Wires.of(ONE_FITS);
        Due.is("18: first", x.know(0, 30), 1);
        Due.is("18: the same", x.know(0, 30), 2);
        Due.is("18: another for the same LETTER", x.know(0, 29), 3);
        Due.is("18: each has its place", x.share(2, false), 3);
    }

    private static void forgetOfNoneAndFive() {
        WireGuess x = Wires.of(FOUR_FIT);
        Due.is("19: of none", x.forget(), 0);
        for (int k = 0; k < 5; k++) {
            x.know(0, k);
        }
        Due.is("19: LEFT ahead of it", x.about(6), 0);
        Due.is("19: of five", x.forget(), 5);
        Due.is("19: once more", x.forget(), 0);
        Due.is("19: KNOWN", x.about(9), 0);
        Due.is("19: LEFT behind it", x.about(6), 4);
        Due.is("19: no place", x.share(0, true), UNKNOWN);
        Due.is("19: there is place again", x.know(0, 31), 1);
        Due.is("19: LEFT by that alone", x.about(6), 3);
    }

    private static void leftWithNothingKnown() {
        Due.is("6: all that FIT", Wires.of(FOUR_FIT).about(6), 4);
        Due.is("6: the least", Wires.of(FOUR_FIT).about(7), 15010);
        Due.is("6: none FITS", new WireGuess().about(6), 0);
        Due.is("6: NONE", new WireGuess().about(7), NONE);
    }

    private static WireGuess tenLetters() {
        WireGuess x = new WireGuess();
        for (int k = 0; k < 10; k++) {
            x.send(26210, 5 * k + 3);
        }
        return x;
    }

    /** What is LEFT is asked of the 768 one by one, too. */
    private static void leftIs(String when, WireGuess x, int i, int v) {
        int left = 0;
        int least = NONE;
        List<Fit> fits = Fit.of(Wires.levels(x));
        for (Fit fit : fits) {
            if (fit.reads(i, v)) {
                left++;
                least = least == NONE ? fit.code : least;
            }
        }
        x.forget();
        x.know(i, v);
        Due.is("6: " + when + ", LEFT by " + i + ", " + v, x.about(6), left);
        Due.is("6: " + when + ", the least by " + i + ", " + v, x.about(7), least);
    }

    private static void leftByTheFirstAndTheTenth() {
        for (int i = 0; i <= 9; i++) {
            leftIs("number " + i, tenLetters(), i, 5 * i + 3);
            leftIs("the one behind it", tenLetters(), i, 5 * i + 8);
        }
        WireGuess x = tenLetters();
        x.know(0, 3);
        Due.is("6: by the first", x.about(7), 26210);
        x.know(9, 48);
        Due.is("6: by the tenth", x.about(7), 26210);
        x.know(8, 48);
        Due.is("6: the ninth is another", x.about(7), NONE);
    }

    private static void leftByALetterThatIsNotRead() {
        WireGuess x = Wires.of(FOUR_FIT);
        x.know(1, 0);
        Due.is("6: a second LETTER, 0", x.about(6), 0);
        x = Wires.of(FOUR_FIT);
        x.know(9, 31);
        Due.is("6: a tenth LETTER", x.about(6), 0);
        Due.is("6: NONE", x.about(7), NONE);
        x = tenLetters();
        x.cut(20);
        x.know(8, 43);
        Due.is("6: the ninth is the last", x.about(7), 26210);
        x.know(9, 48);
        Due.is("6: the tenth is cut off", x.about(6), 0);
    }

    private static void leftByALetterTooGreat() {
        WireGuess x = Wires.of(FOUR_FIT);
        x.know(0, 31 + 32);
        Due.is("6: five bits are no six", x.about(7), 16010);
        x = Wires.of(FOUR_FIT);
        x.know(0, 31 + 128);
        Due.is("6: none has the eighth", x.about(6), 0);
    }

    private static void leftByTheLeastAndTheGreatest() {
        WireGuess x = new WireGuess();
        x.send(28010, 0);
        leftIs("the least", x, 0, 0);
        Due.is("6: the sender is among them", x.about(6) > 0 ? 1 : 0, 1);
        x = new WireGuess();
        x.send(28010, 255);
        leftIs("the greatest", x, 0, 255);
        Due.is("6: the sender is among them", x.about(7), 28010);
    }

    private static void leftByWhatCanNotBoth() {
        WireGuess x = Wires.of(FOUR_FIT);
        x.know(0, 31);
        Due.is("6: by 31", x.about(6), 3);
        x.know(0, 31);
        Due.is("6: by 31 twice", x.about(6), 3);
        x.know(0, 63);
        Due.is("6: by 31 and 63", x.about(6), 0);
        Due.is("6: NONE", x.about(7), NONE);
    }

    private static void leftMustFit() {
        WireGuess x = Wires.of("1" + "0" + "00110" + "1" + "0");
        Due.is("6: it reads 12 and FAILS", x.letter(15010, 0, false), 12);
        x.know(0, 12);
        Due.is("6: it is not LEFT", x.about(6), 0);
    }

    private static void leastOfThoseLeft() {
        WireGuess x = Wires.of(FOUR_FIT);
        x.know(0, 63);
        Due.is("6: the least of one", x.about(7), 16010);
        x.forget();
        x.know(0, 31);
        Due.is("6: the least of three", x.about(7), 15010);
        Due.is("6: BEST is another thing", x.about(3), 15010);
        x.forget();
        x.know(0, 63);
        Due.is("6: BEST is another thing", x.about(3), 15010);
    }

    private static void shareIs(String when, WireGuess x, int place, int above, int below) {
        Due.is("20: " + when + ", share(" + place + ", true)", x.share(place, true), above);
        Due.is("20: " + when + ", share(" + place + ", false)", x.share(place, false), below);
    }

    private static void placesFrom0() {
        WireGuess x = Wires.of(ONE_FITS);
        for (int known = 0; known <= 5; known++) {
            Due.is("20: share(-1) of " + known, x.share(-1, true), UNKNOWN);
            for (int place = 0; place < known; place++) {
                Due.is("20: share(" + place + ") of " + known, x.share(place, true), 1);
            }
            Due.is("20: share(" + known + ") of " + known, x.share(known, true), UNKNOWN);
            Due.is("20: share(" + known + ") below", x.share(known, false), UNKNOWN);
            for (int place : FAR) {
                Due.is("20: share(" + place + ")", x.share(place, false), UNKNOWN);
            }
            x.know(0, known);
        }
    }

    private static void shareOfNothingRuledOut() {
        WireGuess x = Wires.of(ONE_FITS);
        x.know(0, 31);
        shareIs("nothing is ruled out", x, 0, 0, 1);
        x.know(0, 30);
        shareIs("nothing by this", x, 0, 0, 1);
        shareIs("all by that", x, 1, 1, 1);
    }

    private static void shareAlone() {
        WireGuess x = Wires.of(FOUR_FIT);
        x.know(0, 63);
        shareIs("three of four", x, 0, 3, 1);
        x.forget();
        x.know(1, 63);
        shareIs("a LETTER that none reads", x, 0, 4, 1);
    }

    private static void shareWhereNoneFits() {
        WireGuess x = new WireGuess();
        for (int k = 0; k < 5; k++) {
            x.know(k, k);
        }
        for (int k = 0; k < 5; k++) {
            shareIs("none FITS", x, k, 0, 1);
        }
    }

    /** k that rule out one and the same guess: each is the first in one of k orders. */
    private static void shareOfOneToFive() {
        WireGuess x = Wires.of(ONE_FITS);
        for (int known = 1; known <= 5; known++) {
            x.know(known - 1, 30);
            for (int place = 0; place < known; place++) {
                shareIs(known + " KNOWN", x, place, 1, known);
            }
        }
    }

    private static void shareInLeastTerms() {
        WireGuess x = Wires.of(FOUR_FIT);
        x.know(0, 5);
        x.know(0, 31);
        shareIs("3 and 1/2", x, 0, 7, 2);
        shareIs("1/2", x, 1, 1, 2);
        x.know(0, 63);
        shareIs("3/2 and 1/2 are 4/2", x, 0, 2, 1);
        shareIs("1/2", x, 1, 1, 2);
        shareIs("3/2", x, 2, 3, 2);
        x.know(0, 6);
        shareIs("3/3 and 1/3 are 4/3", x, 0, 4, 3);
        shareIs("1/3", x, 1, 1, 3);
        shareIs("3/3 are 1", x, 2, 1, 1);
        shareIs("3/3 and 1/3 are 4/3", x, 3, 4, 3);
        x.know(1, 6);
        shareIs("3/4 and 1/4 are 1", x, 0, 1, 1);
        shareIs("1/4", x, 1, 1, 4);
        shareIs("3/4", x, 2, 3, 4);
    }

    /** Together the SHARES are what is ruled out; each stands in least terms. */
    private static void sharesAddUp() {
        WireGuess x = new WireGuess();
        x.send(17010, 85);
        x.hear(1, 20);
        addUp(x, 85, 213, 21, 85, 7);
        // Bits of 17 TICKS, which are no guess's, and of 16.
        x = Wires.of("1".repeat(17) + "0".repeat(6 * 17) + "1".repeat(17));
        addUp(x, 0, 1, 32, 16, 7);
        x = Wires.of("0".repeat(17) + "1".repeat(6 * 17) + "0".repeat(30));
        addUp(x, 0, 1, 32, 16, 7);
        x = Wires.of("1".repeat(16) + "0".repeat(6 * 16) + "1".repeat(16));
        addUp(x, 0, 1, 32, 16, 7);
    }

    private static void addUp(WireGuess x, int... values) {
        int fit = x.about(2);
        for (int v : values) {
            x.know(0, v);
        }
        long sum = 0;
        for (int place = 0; place < 5; place++) {
            int above = x.share(place, true);
            int below = x.share(place, false);
            Due.holds("20: 60 can be divided by " + below, below > 0 && 60 % below == 0);
            sum += (long) above * (60 / below);
            for (int k = 2; k <= below; k++) {
                Due.holds("20: least terms " + above + "/" + below,
                    above % k != 0 || below % k != 0);
            }
        }
        Due.is("20: sum of SHARES", sum, 60L * (fit - x.about(6)));
        Due.holds("20: some are ruled out", fit > x.about(6));
    }
}
