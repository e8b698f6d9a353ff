/** Promises 1 to 5: the bounds of THE TEXT, of a TAKE, of a FAULT; each sentence by itself. */
public final class TextEdgeTest {
    private static final int BAD = Wires.BAD, LATE = Wires.LATE, FULL = Wires.FULL,
        NONE = Wires.NONE;

    private TextEdgeTest() {
    }

    public static void main(String[] args) {
        lettersFrom0To255();
        neverMoreThan99();
        wipeOfEmptyAndFull();
        emptyText();
        firstLetterIsS();
        secondLetterIsALevel();
        runsBeginWithR();
        twoFigures();
        from01To99();
        withoutBlanks();
        moreThan360InAnyCase();
        anRBehind360();
        lengthIfOnlyNotAtItsEnd();
        lengthOf99SetAside();
        theFirstFaultCounts();
        takeWithoutRuns();
        takeOfOneRun();
        levelsTakeTurns();
        takeOf360();
        takeOfMostRuns();
        takeLeavesNoActs();
        takeLosesWhatWasKept();
        takeLetsTextKnownSeedStay();
        takeIsLateWithAnyFault();
        takeThatIsLateKeepsAll();
        Due.close("TextEdgeTest");
    }

    private static void lettersFrom0To255() {
        Due.is("2: write(0)", new WireGuess().write(0), 1);
        Due.is("2: write(255)", new WireGuess().write(255), 1);
        int[] bad = {-1, 256, 'S' + 256, 'S' - 256, Wires.LEAST, Wires.GREATEST};
        for (int letter : bad) {
            WireGuess x = new WireGuess();
            Due.is("2: write(" + letter + ")", x.write(letter), BAD);
            Due.is("2: letters behind it", x.about(10), 0);
        }
    }

    private static void neverMoreThan99() {
        WireGuess x = new WireGuess();
        for (int k = 1; k <= 98; k++) {
            x.write(k);
        }
        Due.is("2: about(10) of 98", x.about(10), 98);
        Due.is("2: the 99th", x.write(7), 99);
        Due.is("2: the 100th", x.write(7), FULL);
        Due.is("2: once more", x.write(8), FULL);
        Due.is("2: about(10) behind FULL", x.about(10), 99);
    }

    private static void wipeOfEmptyAndFull() {
        WireGuess x = new WireGuess();
        Due.is("3: wipe() of the empty", x.wipe(), 0);
        Wires.writeAll(x, "q".repeat(99));
        Due.is("3: wipe() of the full", x.wipe(), 99);
        Due.is("3: wipe() once more", x.wipe(), 0);
        Due.is("3: there is place again", x.write('S'), 1);
        Due.is("3: nothing is left of what was there", x.fault(), 1);
    }

    private static void faultIs(String sentence, String text, int due) {
        Due.is("4: " + sentence + ", fault() of " + text, Wires.written(text).fault(), due);
    }

    private static void emptyText() {
        faultIs("the empty is only not at its end", "", 0);
    }

    private static void firstLetterIsS() {
        for (char sign = 0; sign <= 255; sign++) {
            faultIs("S", "" + sign, sign == 'S' ? 1 : 0);
        }
    }

    private static void secondLetterIsALevel() {
        for (char sign = 0; sign <= 255; sign++) {
            faultIs("a LEVEL", "S" + sign, sign == '0' || sign == '1' ? NONE : 1);
        }
    }

    private static void runsBeginWithR() {
        for (char sign = 0; sign <= 255; sign++) {
            faultIs("r", "S0" + sign, sign == 'r' ? 3 : 2);
            faultIs("the next r", "S1r07" + sign, sign == 'r' ? 6 : 5);
        }
    }

    private static void twoFigures() {
        for (char sign = 0; sign <= 255; sign++) {
            boolean figure = sign >= '0' && sign <= '9';
            faultIs("the first figure", "S0r" + sign, figure ? 4 : 3);
            faultIs("the second figure", "S0r1" + sign, figure ? NONE : 4);
            faultIs("of the second RUN", "S0r01r" + sign, figure ? 7 : 6);
            faultIs("of the second RUN", "S0r01r2" + sign, figure ? NONE : 7);
        }
    }

    private static void from01To99() {
        for (int n = 0; n <= 99; n++) {
            faultIs("01 .. 99", String.format("S1r%02d", n), n == 0 ? 4 : NONE);
        }
        faultIs("a third figure", "S1r100", 5);
    }

    private static void withoutBlanks() {
        faultIs("without blanks", " S0", 0);
        faultIs("without blanks", "S 0", 1);
        faultIs("without blanks", "S0 r01", 2);
        faultIs("without blanks", "S0r 1", 3);
        faultIs("without blanks", "S0r1 ", 4);
        faultIs("without blanks", "S0r01 ", 5);
    }

    /** Every two figures behind 360 less 1 .. 100 TICKS. */
    private static void moreThan360InAnyCase() {
        for (int left = 1; left <= 100; left++) {
            String ahead = ticksTold(360 - left);
            int place = ahead.length();
            for (int n = 0; n <= 99; n++) {
                String figures = String.format("%02d", n);
                boolean tooMany = n / 10 * 10 > left;
                String sentence = left + " TICKS are left";
                faultIs(sentence, ahead + "r" + figures.charAt(0), tooMany ? place + 1 : place + 2);
                int due = n < 1 || n > left ? place + 2 : NONE;
                faultIs(sentence, ahead + "r" + figures, tooMany ? place + 1 : due);
            }
        }
    }

    /** A TAKE of so many TICKS. */
    private static String ticksTold(int ticks) {
        StringBuilder text = new StringBuilder("S0");
        for (int rest = ticks; rest > 0; rest -= 99) {
            text.append(String.format("r%02d", Math.min(99, rest)));
        }
        return text.toString();
    }

    private static void anRBehind360() {
        String full = "S1r99r99r99r63";
        faultIs("just 360", full, NONE);
        faultIs("an r behind 360", full + "r", 14);
        faultIs("another letter behind 360", full + "0", 14);
        faultIs("what is behind it does not count", full + "r01", 14);
        faultIs("an r behind 359", "S1r99r99r99r62r", 15);
    }

    private static void lengthIfOnlyNotAtItsEnd() {
        String text = "S0r12r05r99";
        int[] due = {0, 1, NONE, 3, 4, NONE, 6, 7, NONE, 9, 10, NONE};
        for (int length = 0; length <= text.length(); length++) {
            faultIs("its length", text.substring(0, length), due[length]);
        }
        faultIs("r0 may become 01", "S0r0", 4);
        faultIs("r9 may become 90", "S0r9", 4);
    }

    private static void lengthOf99SetAside() {
        String of98 = "S0" + "r11".repeat(32);
        faultIs("98 letters", of98, NONE);
        faultIs("no place for its end", of98 + "r", 99);
        faultIs("the 99th is wrong", of98 + "1", 98);
        faultIs("97 letters, one figure to come", of98.substring(0, 97), 97);
    }

    private static void theFirstFaultCounts() {
        faultIs("of three", "s9x", 0);
        faultIs("of two", "S9x", 1);
        faultIs("all is well behind it", "S0r00r05r06", 4);
        faultIs("all is well behind it", "S0xr05", 2);
        WireGuess x = Wires.written("S0rx");
        x.write('0');
        x.write('5');
        Due.is("4: it stays while letters come", x.fault(), 3);
        Due.is("4: asked twice", x.fault(), 3);
    }

    private static void takeWithoutRuns() {
        WireGuess x = Wires.high(360);
        Wires.writeAll(x, "S0");
        Due.is("5: S0", x.take(), 0);
        Due.is("5: TICKS", x.about(0), 0);
        Due.is("5: no TICK 0", x.level(0), Wires.UNKNOWN);
        Due.is("5: no RUN", x.run(0), NONE);
        Due.is("5: S1", Wires.written("S1").take(), 0);
    }

    private static void takeOfOneRun() {
        Wires.wireIs("5: r01", Wires.taken("S0r01"), "0");
        Wires.wireIs("5: r99", Wires.taken("S1r99"), "1".repeat(99));
        Due.is("5: its TICKS", Wires.written("S1r99").take(), 99);
        Due.is("5: its TICKS", Wires.written("S1r01").take(), 1);
    }

    private static void levelsTakeTurns() {
        Wires.wireIs("5: S0", Wires.taken("S0r01r02r03r01"), "0110001");
        Wires.wireIs("5: S1", Wires.taken("S1r01r02r03r01"), "1001110");
    }

    private static void takeOf360() {
        WireGuess x = Wires.written("S0r99r99r99r63");
        Due.is("5: 360 TICKS", x.take(), 360);
        Due.is("5: level(359)", x.level(359), 1);
        Due.is("5: level(360)", x.level(360), Wires.UNKNOWN);
        Due.is("5: no place behind it", x.hear(1, 1), FULL);
        x = Wires.written("S0r99r99r99r64");
        Due.is("5: 361 TICKS", x.take(), LATE);
        Due.is("5: nothing is there", x.about(0), 0);
    }

    private static void takeOfMostRuns() {
        WireGuess x = Wires.written("S1" + "r11".repeat(32));
        Due.is("5: 32 RUNS", x.take(), 352);
        Due.is("5: EDGES", x.about(1), 31);
        Due.is("5: run(31)", x.run(31), 11);
        Due.is("5: run(32)", x.run(32), NONE);
        x = Wires.written("S1" + "r12".repeat(30));
        Due.is("5: 30 RUNS of 12 are 360", x.take(), 360);
        x.write('r');
        Due.is("5: an r behind them", x.take(), LATE);
    }

    private static void takeLeavesNoActs() {
        WireGuess x = Wires.written("S1r05");
        for (int k = 0; k < 15; k++) {
            x.hear(0, 2);
        }
        Due.is("5: ACTS ahead of it", x.about(8), 14);
        Due.is("5: take()", x.take(), 5);
        Due.is("5: no ACTS", x.about(8), 0);
        Due.is("5: undo()", x.undo(), LATE);
        x.hear(0, 1);
        Due.is("5: an ACT behind it is undone", x.undo(), 0);
        Wires.wireIs("5: and no other", x, "11111");
    }

    private static void takeLosesWhatWasKept() {
        WireGuess x = Wires.written("S1r05");
        x.hear(0, 3);
        x.keep(0);
        x.keep(1);
        x.take();
        Due.is("5: SLOT 0 is gone", x.again(0), LATE);
        Due.is("5: SLOT 1 is gone", x.again(1), LATE);
        x.keep(1);
        Due.is("5: kept behind it", x.again(1), 5);
        Due.is("5: the other is still gone", x.again(0), LATE);
    }

    private static void takeLetsTextKnownSeedStay() {
        WireGuess x = Wires.written("S1r05");
        for (int k = 0; k < 5; k++) {
            x.know(k, k);
        }
        x.seed(Long.MIN_VALUE);
        x.take();
        Due.is("5: THE TEXT stays", x.about(10), 5);
        Due.is("5: it is the same", x.fault(), NONE);
        Due.is("5: it can be taken again", x.take(), 5);
        Due.is("5: KNOWN stays", x.about(9), 5);
        Due.is("5: THE SEED stays", x.seed(0), Long.MIN_VALUE);
    }

    private static void takeIsLateWithAnyFault() {
        String[] faulty = {"", "s", "S", "S2", "S0x", "S0r", "S0r1", "S0r00", "S0r1x", "S0r01r",
            "S0r99r99r99r7", "S0r99r99r99r63r", "S0" + "r11".repeat(32) + "r"};
        for (String text : faulty) {
            Due.is("5: take() of " + text, Wires.written(text).take(), LATE);
        }
    }

    private static void takeThatIsLateKeepsAll() {
        WireGuess x = Wires.written("S1r05r");
        x.hear(0, 3);
        x.keep(0);
        x.flip(1);
        Due.is("5: LATE", x.take(), LATE);
        Wires.wireIs("5: behind LATE", x, "010");
        Due.is("5: ACTS behind LATE", x.undo(), 1);
        Due.is("5: THE TEXT behind LATE", x.about(10), 6);
        Due.is("5: what was kept behind LATE", x.again(0), 3);
    }
}
