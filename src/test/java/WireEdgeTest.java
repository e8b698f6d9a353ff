/** Promises 1 and 6 to 9: the bounds of TICKS, EDGES, RUNS, OFF, WIDTH; each sentence by itself. */
public final class WireEdgeTest {
    private static final int UNKNOWN = Wires.UNKNOWN, BAD = Wires.BAD, LATE = Wires.LATE,
        FULL = Wires.FULL, NONE = Wires.NONE;
    private static final int[] FAR = {Wires.LEAST, Wires.LEAST + 1, -1000, 1000, Wires.GREATEST - 1,
        Wires.GREATEST};

    private WireEdgeTest() {
    }

    public static void main(String[] args) {
        nothingAtFirst();
        objectsAreApart();
        whatFrom0To10();
        ticksFrom0To360();
        tick0IsNoEdge();
        mostEdges();
        noneFitsInSilence();
        noneFitsInNoise();
        actsFrom0To14();
        knownFrom0To5();
        lettersFrom0To99();
        levelOfTheLastTick();
        levelOfAFullWire();
        levelBehindACut();
        runsOfNothing();
        firstAndLastRun();
        runsOfOneTick();
        oneRunOf360();
        offFrom1To16();
        fewerThanThreeRuns();
        onlyRunsBetween();
        offOfEachLength();
        offOfAShorterRun();
        offAddsUp();
        widthOfLikeOnesTheGreatest();
        fiveHundredAndTwelveCalls();
        Due.close("WireEdgeTest");
    }

    private static void nothingAtFirst() {
        WireGuess x = new WireGuess();
        int[] due = {0, 0, 0, NONE, 0, 16, 0, NONE, 0, 0, 0};
        for (int what = 0; what < due.length; what++) {
            Due.is("1: about(" + what + ")", x.about(what), due[what]);
        }
        Due.is("1: fault()", x.fault(), 0);
        Due.is("1: take()", x.take(), LATE);
        Due.is("1: level(0)", x.level(0), UNKNOWN);
        Due.is("1: run(0)", x.run(0), NONE);
        Due.is("1: flip(0)", x.flip(0), UNKNOWN);
        Due.is("1: cut(1)", x.cut(1), BAD);
        Due.is("1: undo()", x.undo(), LATE);
        Due.is("1: share(0)", x.share(0, true), UNKNOWN);
        Due.is("1: again(0)", x.again(0), LATE);
        Due.is("1: again(1)", x.again(1), LATE);
        Due.is("1: wipe()", x.wipe(), 0);
        Due.is("1: forget()", x.forget(), 0);
        Due.is("1: seed(1)", x.seed(1), 0);
    }

    private static void objectsAreApart() {
        WireGuess x = new WireGuess();
        WireGuess y = new WireGuess();
        Twins.FILLED.accept(x);
        for (int what = 8; what <= 10; what++) {
            Due.is("1: another object's about(" + what + ")", y.about(what), 0);
        }
        Due.is("1: another object's TICKS", y.about(0), 0);
        Due.is("1: another object's SLOT", y.again(0), LATE);
        Due.is("1: another object's SEED", y.seed(3), 0);
        y.hear(0, 1);
        Due.is("1: it goes on by itself", x.about(0), 360);
    }

    private static void whatFrom0To10() {
        WireGuess x = Wires.of("1101");
        Due.is("6: about(0)", x.about(0), 4);
        Due.is("6: about(10)", x.about(10), 0);
        Due.is("6: about(-1)", x.about(-1), BAD);
        Due.is("6: about(11)", x.about(11), BAD);
        for (int what : FAR) {
            Due.is("6: about(" + what + ")", x.about(what), BAD);
        }
    }

    private static void ticksFrom0To360() {
        WireGuess x = Wires.high(359);
        Due.is("6: 359", x.about(0), 359);
        Due.is("6: the 360th", x.hear(1, 1), 360);
        Due.is("6: 360", x.about(0), 360);
        Due.is("6: no 361st", x.hear(1, 1), FULL);
        Due.is("6: still 360", x.about(0), 360);
    }

    private static void tick0IsNoEdge() {
        Due.is("6: EDGES of nothing", new WireGuess().about(1), 0);
        Due.is("6: EDGES of a 0", Wires.of("0").about(1), 0);
        Due.is("6: EDGES of a 1", Wires.of("1").about(1), 0);
        Due.is("6: EDGES of 01", Wires.of("01").about(1), 1);
        Due.is("6: EDGES of 10", Wires.of("10").about(1), 1);
        Due.is("6: EDGES of 11", Wires.of("11").about(1), 0);
        Due.is("6: an EDGE at the last TICK", Wires.of("1110").about(1), 1);
    }

    private static void mostEdges() {
        WireGuess x = Wires.everyTickAnEdge();
        Due.is("6: TICKS", x.about(0), 360);
        Due.is("6: EDGES of 360 TICKS", x.about(1), 359);
        x.flip(0);
        Due.is("6: one fewer", x.about(1), 358);
        x.flip(180);
        Due.is("6: two fewer again", x.about(1), 356);
        x.cut(359);
        Due.is("6: none of one TICK", x.about(1), 0);
    }

    private static void noneFits(String when, WireGuess x) {
        Due.is("6: " + when + ", FIT", x.about(2), 0);
        Due.is("6: " + when + ", BEST", x.about(3), NONE);
        Due.is("6: " + when + ", ALIKE", x.about(4), 0);
        Due.is("6: " + when + ", LEFT", x.about(6), 0);
        Due.is("6: " + when + ", the least of these", x.about(7), NONE);
    }

    private static void noneFitsInSilence() {
        noneFits("nothing", new WireGuess());
        noneFits("a TICK", Wires.of("0"));
        noneFits("one RUN", Wires.high(360));
        noneFits("no START has room", Wires.of("1011111"));
        WireGuess x = Wires.of("10111111");
        Due.is("6: a TICK more, and one FITS", x.about(2), 1);
        Due.is("6: it is BEST", x.about(3), 15010);
        Due.is("6: ALIKE", x.about(4), 1);
        Due.is("6: LEFT", x.about(6), 1);
        Due.is("6: the least", x.about(7), 15010);
        x.cut(1);
        noneFits("behind what FITTED", x);
    }

    private static void noneFitsInNoise() {
        noneFits("every TICK an EDGE, stopped early", noise());
    }

    /** A START for either side at the end, with no room for a FRAME of any bit. */
    private static WireGuess noise() {
        WireGuess x = Wires.everyTickAnEdge();
        x.cut(350);
        x.hear(1, 3);
        x.hear(0, 2);
        x.hear(1, 1);
        return x;
    }

    private static void actsFrom0To14() {
        WireGuess x = new WireGuess();
        for (int k = 1; k <= 13; k++) {
            x.hear(1, 1);
        }
        Due.is("6: ACTS", x.about(8), 13);
        x.hear(1, 1);
        Due.is("6: ACTS", x.about(8), 14);
        x.hear(1, 1);
        Due.is("6: ACTS, never more than 14", x.about(8), 14);
        x.undo();
        Due.is("6: ACTS behind undo()", x.about(8), 13);
    }

    private static void knownFrom0To5() {
        WireGuess x = new WireGuess();
        for (int k = 1; k <= 6; k++) {
            x.know(0, 0);
            Due.is("6: KNOWN", x.about(9), Math.min(k, 5));
        }
        x.forget();
        Due.is("6: KNOWN behind forget()", x.about(9), 0);
    }

    private static void lettersFrom0To99() {
        WireGuess x = new WireGuess();
        for (int k = 1; k <= 100; k++) {
            x.write(0);
            Due.is("6: letters", x.about(10), Math.min(k, 99));
        }
        x.wipe();
        Due.is("6: letters behind wipe()", x.about(10), 0);
    }

    private static void levelOfTheLastTick() {
        WireGuess x = Wires.of("01");
        Due.is("7: level(0)", x.level(0), 0);
        Due.is("7: level(1), the last", x.level(1), 1);
        Due.is("7: level(2), behind it", x.level(2), UNKNOWN);
        Due.is("7: level(-1)", x.level(-1), UNKNOWN);
        for (int tick : FAR) {
            Due.is("7: level(" + tick + ")", x.level(tick), UNKNOWN);
        }
        Due.is("7: level(0) of nothing", new WireGuess().level(0), UNKNOWN);
    }

    private static void levelOfAFullWire() {
        WireGuess x = Wires.high(359);
        Due.is("7: level(359) of 359", x.level(359), UNKNOWN);
        x.hear(0, 1);
        Due.is("7: level(359)", x.level(359), 0);
        Due.is("7: level(358)", x.level(358), 1);
        Due.is("7: level(360)", x.level(360), UNKNOWN);
    }

    private static void levelBehindACut() {
        WireGuess x = Wires.of("0101");
        x.cut(3);
        Due.is("7: level(0)", x.level(0), 0);
        Due.is("7: level(1) is gone", x.level(1), UNKNOWN);
        x.cut(1);
        Due.is("7: level(0) is gone", x.level(0), UNKNOWN);
    }

    private static void runsOfNothing() {
        WireGuess x = new WireGuess();
        Due.is("8: run(0)", x.run(0), NONE);
        Due.is("8: run(-1)", x.run(-1), NONE);
        Due.is("8: run(1)", x.run(1), NONE);
    }

    private static void firstAndLastRun() {
        WireGuess x = Wires.of("00011110");
        Due.is("8: the first", x.run(0), 3);
        Due.is("8: the second", x.run(1), 4);
        Due.is("8: the last", x.run(2), 1);
        Due.is("8: behind the last", x.run(3), NONE);
        Due.is("8: run(-1)", x.run(-1), NONE);
        for (int i : FAR) {
            Due.is("8: run(" + i + ")", x.run(i), NONE);
        }
    }

    private static void runsOfOneTick() {
        WireGuess x = Wires.everyTickAnEdge();
        Due.is("8: the first of 360", x.run(0), 1);
        Due.is("8: the last of 360", x.run(359), 1);
        Due.is("8: behind it", x.run(360), NONE);
        Due.is("8: far behind it", x.run(361), NONE);
    }

    private static void oneRunOf360() {
        WireGuess x = Wires.high(360);
        Due.is("8: run(0)", x.run(0), 360);
        Due.is("8: run(1)", x.run(1), NONE);
        x.flip(359);
        Due.is("8: run(0) of the TICKS ahead", x.run(0), 359);
        Due.is("8: the last TICK is a RUN", x.run(1), 1);
    }

    private static void offFrom1To16() {
        WireGuess x = Wires.of("1" + "000" + "1");
        Due.is("9: off(1)", x.off(1), 0);
        Due.is("9: off(16)", x.off(16), 13);
        Due.is("9: off(0)", x.off(0), BAD);
        Due.is("9: off(17)", x.off(17), BAD);
        Due.is("9: off(-3)", x.off(-3), BAD);
        for (int b : FAR) {
            Due.is("9: off(" + b + ")", x.off(b), BAD);
        }
    }

    private static void fewerThanThreeRuns() {
        String[] few = {"", "1", "0".repeat(7), "1110", "10", "0".repeat(7) + "1".repeat(11)};
        for (String levels : few) {
            WireGuess x = Wires.of(levels);
            for (int b = 1; b <= 16; b++) {
                Due.is("9: off(" + b + ") of " + levels, x.off(b), 0);
            }
            Due.is("6: WIDTH of " + levels, x.about(5), 16);
        }
        WireGuess x = Wires.of("0".repeat(7) + "1".repeat(11) + "0");
        Due.is("9: with three one counts", x.off(16), 5);
        Due.is("6: WIDTH of three", x.about(5), 11);
    }

    private static void onlyRunsBetween() {
        for (int ends = 1; ends <= 20; ends++) {
            WireGuess x = Wires.of("1".repeat(ends) + "0".repeat(6) + "1".repeat(21 - ends));
            Due.is("9: neither the first nor the last RUN counts", x.off(5), 1);
            Due.is("6: nor for WIDTH", x.about(5), 6);
        }
    }

    /** Each length against each b, the nearest multiple found by trying them all. */
    private static void offOfEachLength() {
        for (int length = 1; length <= 99; length++) {
            WireGuess x = Wires.of("1" + "0".repeat(length) + "1");
            int width = 0;
            for (int b = 1; b <= 16; b++) {
                int nearest = Wires.GREATEST;
                for (int times = 1; times <= 100; times++) {
                    nearest = Math.min(nearest, Math.abs(length - times * b));
                }
                Due.is("9: off(" + b + ") of a RUN of " + length, x.off(b), nearest);
                width = nearest == 0 ? b : width;
            }
            Due.is("6: WIDTH of a RUN of " + length, x.about(5), width);
        }
    }

    private static void offOfAShorterRun() {
        Due.is("9: b less its TICKS", Wires.of("1" + "0" + "1").off(16), 15);
        Due.is("9: not 2 off nothing", Wires.of("1" + "00" + "1").off(7), 5);
        Due.is("9: one shorter", Wires.of("1" + "000000" + "1").off(7), 1);
        Due.is("9: just b", Wires.of("1" + "0000000" + "1").off(7), 0);
        Due.is("9: one longer", Wires.of("1" + "00000000" + "1").off(7), 1);
        Due.is("9: half between, b even", Wires.of("1" + "000000" + "1").off(4), 2);
        Due.is("9: nearer the greater one", Wires.of("1" + "0000000" + "1").off(4), 1);
    }

    private static void offAddsUp() {
        WireGuess x = Wires.everyTickAnEdge();
        Due.is("9: 358 RUNS, each 15 off", x.off(16), 358 * 15);
        Due.is("9: by 1", x.off(1), 0);
        Due.is("6: WIDTH", x.about(5), 1);
        x = Wires.of("0" + "111" + "00000" + "1111" + "0");
        Due.is("9: 1 and 1 and 0", x.off(4), 2);
    }

    private static void widthOfLikeOnesTheGreatest() {
        Due.is("6: of 1, 2, 3, 6", Wires.of("1" + "000000" + "1").about(5), 6);
        Due.is("6: of 1, 2, 4", Wires.of("1" + "0000" + "11111111" + "0").about(5), 4);
        Due.is("6: 16 is the greatest", Wires.of("1" + "0".repeat(32) + "1").about(5), 16);
        Due.is("6: 17 is none", Wires.of("1" + "0".repeat(17) + "1").about(5), 1);
        Due.is("6: 1 alone", Wires.of("1" + "000" + "1111" + "0").about(5), 1);
    }

    /** "An object is used for at most 512 calls": the last one is answered as the first. */
    private static void fiveHundredAndTwelveCalls() {
        WireGuess x = new WireGuess();
        for (int k = 1; k <= 511; k++) {
            x.hear(k % 2, 1);
        }
        Due.is("1: the 512th call", x.undo(), 13);
        x = new WireGuess();
        x.send(48110, 65);
        for (int k = 2; k <= 511; k++) {
            x.about(4);
        }
        Due.is("1: the 512th call", x.about(3), 48110);
    }
}
