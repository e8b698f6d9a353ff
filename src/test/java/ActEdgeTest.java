/** Promises 10 to 14: the bounds of what is HEARD, SENT, FLIPPED, CUT, undone. */
public final class ActEdgeTest {
    private static final int UNKNOWN = Wires.UNKNOWN, BAD = Wires.BAD, LATE = Wires.LATE,
        FULL = Wires.FULL;
    private static final int[] FAR = {Wires.LEAST, Wires.LEAST + 1, -1000, 1000, Wires.GREATEST - 1,
        Wires.GREATEST};

    private ActEdgeTest() {
    }

    public static void main(String[] args) {
        hearLevel0Or1();
        hear1To99();
        hearWithJustPlace();
        hearGoesBehind();
        sendCodes();
        sendLetters0To255();
        sendLowestBits();
        sendParityOfLowestBits();
        sendLevels();
        sendWithJustPlace();
        flipFirstAndLast();
        flipBehindTheLast();
        cut1ToAll();
        cutOfNothing();
        undoWithNone();
        undoOfEachAct();
        undoOfWhatFilledTheWire();
        undoOfACutOfAll();
        undoOfEachLengthOfCut();
        undoOfTwoCuts();
        aCutAfterACut();
        thirteenAndFourteenAndFifteen();
        theFirstIsForgottenAgainAndAgain();
        actsBehindUndo();
        refusedIsNoAct();
        onlyFourKindsAreActs();
        undoIsNoAct();
        notUndone();
        Due.close("ActEdgeTest");
    }

    private static void hearLevel0Or1() {
        Due.is("10: hear(0, 1)", new WireGuess().hear(0, 1), 1);
        Due.is("10: hear(1, 1)", new WireGuess().hear(1, 1), 1);
        WireGuess x = new WireGuess();
        Due.is("10: hear(-1, 1)", x.hear(-1, 1), BAD);
        Due.is("10: hear(2, 1)", x.hear(2, 1), BAD);
        for (int level : FAR) {
            Due.is("10: hear(" + level + ", 1)", x.hear(level, 1), BAD);
        }
        Due.is("10: nothing was heard", x.about(0), 0);
    }

    private static void hear1To99() {
        Due.is("10: hear(1, 99)", new WireGuess().hear(1, 99), 99);
        WireGuess x = new WireGuess();
        Due.is("10: hear(1, 0)", x.hear(1, 0), BAD);
        Due.is("10: hear(1, -1)", x.hear(1, -1), BAD);
        Due.is("10: hear(1, 100)", x.hear(1, 100), BAD);
        for (int n : FAR) {
            Due.is("10: hear(1, " + n + ")", x.hear(1, n), BAD);
        }
        Due.is("10: nothing was heard", x.about(0), 0);
        Due.is("10: nothing is an ACT", x.about(8), 0);
    }

    private static void hearWithJustPlace() {
        for (int n = 1; n <= 99; n++) {
            WireGuess x = Wires.high(360 - n);
            Due.is("10: just place for " + n, x.hear(0, n), 360);
            x = Wires.high(361 - n);
            Due.is("10: no place for " + n, x.hear(0, n), FULL);
            Due.is("10: none of them was heard", x.about(0), 361 - n);
        }
    }

    private static void hearGoesBehind() {
        WireGuess x = new WireGuess();
        x.hear(0, 2);
        x.hear(0, 1);
        x.hear(1, 2);
        Wires.wireIs("10: one behind another", x, "00011");
    }

    private static void sendCodes() {
        for (int code : Wires.NO_CODES) {
            WireGuess x = new WireGuess();
            Due.is("11: send(" + code + ", 1)", x.send(code, 1), BAD);
            Due.is("11: nothing was sent", x.about(0), 0);
        }
        for (int code : Wires.codes()) {
            Due.is("11: send(" + code + ", 170)", new WireGuess().send(code, 170),
                Wires.ticksSent(code));
        }
        Due.is("11: the shortest", new WireGuess().send(15010, 1), 8);
        Due.is("11: the longest", new WireGuess().send(168221, 1), 208);
    }

    private static void sendLetters0To255() {
        Wires.wireIs("11: 0", sent(18010, 0), "1" + "0" + "00000000" + "1");
        Wires.wireIs("11: 255", sent(18010, 255), "1" + "0" + "11111111" + "1");
        WireGuess x = new WireGuess();
        Due.is("11: send(18010, -1)", x.send(18010, -1), BAD);
        Due.is("11: send(18010, 256)", x.send(18010, 256), BAD);
        for (int letter : FAR) {
            Due.is("11: send(18010, " + letter + ")", x.send(18010, letter), BAD);
        }
        Due.is("11: nothing was sent", x.about(0), 0);
        Due.is("11: 255 by five bits is no refusal", x.send(15010, 255), 8);
    }

    private static WireGuess sent(int code, int letter) {
        WireGuess x = new WireGuess();
        x.send(code, letter);
        return x;
    }

    private static void sendLowestBits() {
        for (int d = 5; d <= 8; d++) {
            int code = Wires.code(1, d, 0, 1, 0);
            String all = "1" + "0" + "1".repeat(d) + "1";
            String none = "1" + "0" + "0".repeat(d) + "1";
            Wires.wireIs("11: all the bits, " + d, sent(code, (1 << d) - 1), all);
            Wires.wireIs("11: 255 by " + d, sent(code, 255), all);
            Wires.wireIs("11: the highest, " + d, sent(code, 1 << d - 1),
                "1" + "0" + "0".repeat(d - 1) + "1" + "1");
            Wires.wireIs("11: what is above them by " + d, sent(code, 255 >> d << d), none);
            Wires.wireIs("11: the lowest first, " + d, sent(code, 1),
                "1" + "0" + "1" + "0".repeat(d - 1) + "1");
        }
    }

    private static void sendParityOfLowestBits() {
        Wires.wireIs("11: even of none", sent(15110, 0), "1" + "0" + "00000" + "0" + "1");
        Wires.wireIs("11: odd of none", sent(15210, 0), "1" + "0" + "00000" + "1" + "1");
        Wires.wireIs("11: even of five", sent(15110, 31), "1" + "0" + "11111" + "1" + "1");
        Wires.wireIs("11: odd of five", sent(15210, 31), "1" + "0" + "11111" + "0" + "1");
        Wires.wireIs("11: bits above do not count", sent(15110, 32), "1" + "0" + "00000" + "0" + "1");
        Wires.wireIs("11: bits above do not count", sent(15210, 64), "1" + "0" + "00000" + "1" + "1");
        Wires.wireIs("11: of eight", sent(18110, 128), "1" + "0" + "00000001" + "1" + "1");
        Wires.wireIs("11: turned over, even", sent(15111, 1), "0" + "1" + "01111" + "0" + "0");
        Wires.wireIs("11: turned over, odd", sent(15211, 1), "0" + "1" + "01111" + "1" + "0");
    }

    private static void sendLevels() {
        Wires.wireIs("11: two stops", sent(15020, 0), "1" + "0" + "00000" + "11");
        Wires.wireIs("11: turned over", sent(15021, 0), "0" + "1" + "11111" + "00");
        Wires.wireIs("11: each bit for b TICKS", sent(35110, 1),
            "111" + "000" + "111" + "000".repeat(4) + "111" + "111");
        Wires.wireIs("11: sixteen TICKS", sent(165010, 0),
            "1".repeat(16) + "0".repeat(96) + "1".repeat(16));
    }

    private static void sendWithJustPlace() {
        for (int code : Wires.codes()) {
            int n = Wires.ticksSent(code);
            WireGuess x = Wires.high(360 - n);
            Due.is("11: just place, " + code, x.send(code, 1), 360);
            x = Wires.high(361 - n);
            Due.is("11: a TICK too few, " + code, x.send(code, 1), FULL);
            Due.is("11: nothing of it was sent, " + code, x.about(0), 361 - n);
        }
    }

    private static void flipFirstAndLast() {
        WireGuess x = Wires.of("0110");
        Due.is("12: flip(0)", x.flip(0), 1);
        Due.is("12: flip(3)", x.flip(3), 1);
        Wires.wireIs("12: behind them", x, "1111");
        Due.is("12: flip(3) once more", x.flip(3), 0);
        Wires.wireIs("12: behind it", x, "1110");
        x = Wires.high(360);
        Due.is("12: flip(359)", x.flip(359), 0);
        Due.is("12: level(359)", x.level(359), 0);
        Due.is("12: its neighbour", x.level(358), 1);
    }

    private static void flipBehindTheLast() {
        WireGuess x = Wires.of("0110");
        Due.is("12: flip(4)", x.flip(4), UNKNOWN);
        Due.is("12: flip(-1)", x.flip(-1), UNKNOWN);
        for (int tick : FAR) {
            Due.is("12: flip(" + tick + ")", x.flip(tick), UNKNOWN);
        }
        Wires.wireIs("12: nothing was flipped", x, "0110");
        Due.is("12: flip(0) of nothing", new WireGuess().flip(0), UNKNOWN);
        Due.is("12: flip(360) of 360", Wires.high(360).flip(360), UNKNOWN);
        x.cut(2);
        Due.is("12: a TICK that is gone", x.flip(2), UNKNOWN);
        Due.is("12: the last that is left", x.flip(1), 0);
    }

    private static void cut1ToAll() {
        Due.is("13: cut(1)", Wires.of("0110").cut(1), 3);
        Due.is("13: cut(all)", Wires.of("0110").cut(4), 0);
        Due.is("13: cut(all of 360)", Wires.high(360).cut(360), 0);
        Due.is("13: cut(361)", Wires.high(360).cut(361), BAD);
        WireGuess x = Wires.of("0110");
        Due.is("13: cut(5)", x.cut(5), BAD);
        Due.is("13: cut(0)", x.cut(0), BAD);
        Due.is("13: cut(-1)", x.cut(-1), BAD);
        for (int n : FAR) {
            Due.is("13: cut(" + n + ")", x.cut(n), BAD);
        }
        Wires.wireIs("13: nothing is gone", x, "0110");
        x.cut(3);
        Wires.wireIs("13: the last ones are gone", x, "0");
        x.hear(1, 2);
        Wires.wireIs("13: others come in their place", x, "011");
    }

    private static void cutOfNothing() {
        WireGuess x = new WireGuess();
        Due.is("13: cut(1) of nothing", x.cut(1), BAD);
        Due.is("13: cut(0) of nothing", x.cut(0), BAD);
        x.hear(1, 2);
        x.cut(2);
        Due.is("13: cut(1) when all is gone", x.cut(1), BAD);
        Due.is("13: ACTS", x.about(8), 2);
    }

    private static void undoWithNone() {
        WireGuess x = new WireGuess();
        Due.is("14: a new object", x.undo(), LATE);
        x.hear(1, 3);
        Due.is("14: the only one", x.undo(), 0);
        Due.is("14: behind it", x.undo(), LATE);
        Due.is("14: and again", x.undo(), LATE);
        Due.is("14: ACTS behind LATE", x.about(8), 0);
        x.hear(1, 3);
        x.keep(0);
        x.again(0);
        Due.is("14: behind again()", x.undo(), LATE);
        Due.is("14: THE WIRE behind LATE", x.about(0), 3);
    }

    private static void undoOfEachAct() {
        WireGuess x = Wires.taken("S1r02r01");
        x.hear(1, 3);
        Due.is("14: of hear", x.undo(), 0);
        Wires.wireIs("14: of hear", x, "110");
        x.send(15010, 3);
        Due.is("14: of send", x.undo(), 0);
        Wires.wireIs("14: of send", x, "110");
        x.flip(0);
        Due.is("14: of flip(0)", x.undo(), 0);
        Wires.wireIs("14: of flip(0)", x, "110");
        x.flip(2);
        Due.is("14: of flip of the last", x.undo(), 0);
        Wires.wireIs("14: of flip of the last", x, "110");
        x.cut(1);
        Due.is("14: of cut(1)", x.undo(), 0);
        Wires.wireIs("14: of cut(1)", x, "110");
        x.cut(3);
        Due.is("14: of cut(all)", x.undo(), 0);
        Wires.wireIs("14: of cut(all)", x, "110");
    }

    private static void undoOfWhatFilledTheWire() {
        WireGuess x = Wires.high(261);
        x.hear(0, 99);
        Due.is("14: of 99 at the end", x.undo(), 3);
        Wires.wireIs("14: of 99 at the end", x, "1".repeat(261));
        x = Wires.high(152);
        x.send(168221, 0);
        Due.is("14: of 208 at the end", x.undo(), 2);
        Wires.wireIs("14: of 208 at the end", x, "1".repeat(152));
        x.send(168221, 0);
        Due.is("14: there is just place again", x.about(0), 360);
    }

    private static void undoOfACutOfAll() {
        WireGuess x = Wires.everyTickAnEdge();
        x.flip(0);
        x.flip(200);
        x.cut(360);
        x.hear(1, 7);
        x.undo();
        x.undo();
        StringBuilder due = new StringBuilder("10".repeat(180));
        due.setCharAt(0, '0');
        due.setCharAt(200, '0');
        Wires.wireIs("14: 360 TICKS come back", x, due.toString());
    }

    /** What is gone is kept beyond the TICKS that come in its place. */
    private static void undoOfEachLengthOfCut() {
        String levels = "011010011001011".repeat(9);
        for (int n = 1; n <= levels.length(); n++) {
            WireGuess x = Wires.of(levels);
            x.cut(n);
            x.hear(n % 2, 99);
            x.undo();
            x.undo();
            Wires.wireIs("14: a cut of " + n, x, levels);
        }
    }

    /** 360 TICKS in two cuts, behind 0 .. 29 other ACTS. */
    private static void undoOfTwoCuts() {
        int[] firsts = {1, 63, 64, 65, 320, 321, 340, 359};
        for (int first : firsts) {
            for (int ahead = 0; ahead < 30; ahead++) {
                WireGuess x = Wires.taken("S1" + "r11r07".repeat(15) + "r80r10");
                for (int k = 0; k < ahead; k++) {
                    x.flip(0);
                }
                String before = Wires.runs(x);
                x.cut(first);
                x.cut(360 - first);
                x.undo();
                x.undo();
                Due.holds("14: cut(" + first + ") and the rest behind " + ahead + " ACTS",
                    Wires.runs(x).equals(before));
            }
        }
    }

    /** Where ONES were cut and undone, ZEROS are cut. */
    private static void aCutAfterACut() {
        String turns = "r99r99r99r63";
        WireGuess x = Wires.taken("S1" + turns);
        x.cut(360);
        x.undo();
        x.wipe();
        Wires.writeAll(x, "S0" + turns);
        x.take();
        x.cut(360);
        x.undo();
        Wires.wireIs("14: of what was cut last", x, "0".repeat(99) + "1".repeat(99)
            + "0".repeat(99) + "1".repeat(63));
    }

    private static void thirteenAndFourteenAndFifteen() {
        for (int acts = 13; acts <= 15; acts++) {
            WireGuess x = new WireGuess();
            for (int k = 1; k <= acts; k++) {
                x.hear(k % 2, k);
            }
            int left = Math.min(acts, 14);
            Due.is("14: ACTS of " + acts, x.about(8), left);
            for (int k = left - 1; k >= 0; k--) {
                Due.is("14: undo() of " + acts, x.undo(), k);
            }
            Due.is("14: undo() behind all of " + acts, x.undo(), LATE);
            Wires.wireIs("14: of " + acts, x, acts == 15 ? "1" : "");
        }
    }

    private static void theFirstIsForgottenAgainAndAgain() {
        WireGuess x = new WireGuess();
        for (int k = 0; k < 60; k++) {
            x.hear(k % 2, 2);
            x.cut(1);
        }
        Due.is("14: ACTS of 120", x.about(8), 14);
        for (int k = 13; k >= 0; k--) {
            Due.is("14: undo()", x.undo(), k);
            Due.is("14: its TICKS", x.about(0), k % 2 == 1 ? 53 + (k + 1) / 2 + 1 : 53 + k / 2);
        }
        Due.is("14: the first 106 are forgotten", x.undo(), LATE);
        Wires.wireIs("14: they stay done", x, "01".repeat(26) + "0");
    }

    private static void actsBehindUndo() {
        WireGuess x = new WireGuess();
        for (int k = 0; k < 20; k++) {
            x.hear(1, 1);
        }
        for (int k = 0; k < 10; k++) {
            x.undo();
        }
        Due.is("14: four are left", x.about(8), 4);
        for (int k = 0; k < 10; k++) {
            x.hear(0, 1);
        }
        Due.is("14: fourteen again, none forgotten", x.about(8), 14);
        for (int k = 0; k < 14; k++) {
            x.undo();
        }
        Wires.wireIs("14: the six that were forgotten stay", x, "111111");
        Due.is("14: LATE", x.undo(), LATE);
    }

    private static void refusedIsNoAct() {
        WireGuess x = Wires.of("10");
        x.hear(2, 1);
        x.hear(1, 100);
        x.send(15012, 1);
        x.send(15010, 256);
        x.flip(2);
        x.cut(3);
        Due.is("14: ACTS", x.about(8), 2);
        Due.is("14: undo()", x.undo(), 1);
        Wires.wireIs("14: the last that was not refused", x, "1");
        x = Wires.high(360);
        x.hear(1, 1);
        x.send(15010, 0);
        Due.is("14: what is FULL is no ACT", x.about(8), 4);
    }

    private static void onlyFourKindsAreActs() {
        WireGuess x = Wires.of("10");
        x.write('S');
        x.fault();
        x.wipe();
        x.know(0, 0);
        x.forget();
        x.seed(5);
        x.drawn(15010, 10);
        x.chance(15010, 2, 10, true);
        x.judge(3, 110120004001L);
        x.keep(0);
        Due.is("14: no ACT among them", x.about(8), 2);
        x.flip(0);
        Due.is("14: a flip is one", x.about(8), 3);
        x.cut(1);
        Due.is("14: a cut is one", x.about(8), 4);
        x.send(15010, 0);
        Due.is("14: what is SENT is one", x.about(8), 5);
        x.hear(0, 1);
        Due.is("14: what is HEARD is one", x.about(8), 6);
    }

    private static void undoIsNoAct() {
        WireGuess x = new WireGuess();
        x.hear(1, 1);
        x.hear(0, 1);
        x.undo();
        Due.is("14: undo() of the other, too", x.undo(), 0);
        Due.is("14: nothing is done again", x.about(0), 0);
    }

    private static void notUndone() {
        WireGuess x = new WireGuess();
        x.hear(1, 3);
        Wires.writeAll(x, "S1r09");
        x.know(1, 1);
        x.seed(8);
        x.keep(0);
        x.undo();
        Due.is("14: THE TEXT", x.about(10), 5);
        Due.is("14: KNOWN", x.about(9), 1);
        Due.is("14: THE SEED", x.seed(0), 8);
        Due.is("14: what was kept", x.again(0), 3);
        Due.is("14: THE TEXT as it was", x.take(), 9);
    }
}
