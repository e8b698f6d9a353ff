/** The promises, one by one, with answers worked out by hand from the document. */
public final class PromiseTest {
    private static final int UNKNOWN = -1, BAD = -2, LATE = -3, FULL = -4, NONE = -9;

    private PromiseTest() {
    }

    public static void main(String[] args) {
        newObject();
        write();
        wipe();
        fault();
        take();
        aboutPlain();
        aboutGuesses();
        level();
        run();
        off();
        hear();
        send();
        flip();
        cut();
        undo();
        undoOfFourteen();
        guessFailures();
        guessFrames();
        guessMargin();
        guessCodes();
        letter();
        judgeDoings();
        judgeQuestions();
        judgeRows();
        know();
        forget();
        share();
        chance();
        seed();
        drawn();
        keepAndAgain();
        Due.close("PromiseTest");
    }

    private static WireGuess of(String levels) {
        WireGuess x = new WireGuess();
        for (int k = 0; k < levels.length(); k++) {
            x.hear(levels.charAt(k) - '0', 1);
        }
        return x;
    }

    private static void writeAll(WireGuess x, String text) {
        x.wipe();
        for (int k = 0; k < text.length(); k++) {
            x.write(text.charAt(k));
        }
    }

    private static void newObject() {
        WireGuess x = new WireGuess();
        int[] due = {0, 0, 0, NONE, 0, 16, 0, NONE, 0, 0, 0};
        for (int what = 0; what < due.length; what++) {
            Due.is("1: about(" + what + ")", x.about(what), due[what]);
        }
        Due.is("1: level(0)", x.level(0), UNKNOWN);
        Due.is("1: undo()", x.undo(), LATE);
        Due.is("1: again(0)", x.again(0), LATE);
        Due.is("1: again(1)", x.again(1), LATE);
        Due.is("1: seed(5)", x.seed(5), 0);
        WireGuess y = new WireGuess();
        x.hear(1, 9);
        Due.is("1: another object's about(0)", y.about(0), 0);
    }

    private static void write() {
        WireGuess x = new WireGuess();
        Due.is("2: write(0)", x.write(0), 1);
        Due.is("2: write(255)", x.write(255), 2);
        Due.is("2: write(256)", x.write(256), BAD);
        Due.is("2: write(-1)", x.write(-1), BAD);
        Due.is("2: about(10)", x.about(10), 2);
        for (int k = 3; k <= 99; k++) {
            Due.is("2: write(65)", x.write(65), k);
        }
        Due.is("2: the 100th", x.write(65), FULL);
        Due.is("2: BAD ahead of FULL", x.write(300), BAD);
        Due.is("2: about(10) behind it", x.about(10), 99);
    }

    private static void wipe() {
        WireGuess x = new WireGuess();
        Due.is("3: wipe() of nothing", x.wipe(), 0);
        writeAll(x, "S1r05");
        x.take();
        Due.is("3: wipe()", x.wipe(), 5);
        Due.is("3: about(10)", x.about(10), 0);
        Due.is("3: fault()", x.fault(), 0);
        Due.is("3: the wire stays", x.about(0), 5);
        Due.is("3: write behind it", x.write('S'), 1);
        Due.is("3: fault() of S", x.fault(), 1);
    }

    private static void faultIs(String text, int due) {
        WireGuess x = new WireGuess();
        writeAll(x, text);
        Due.is("4: fault() of " + text, x.fault(), due);
    }

    private static void fault() {
        faultIs("", 0);
        faultIs("s", 0);
        faultIs("s0", 0);
        faultIs("S", 1);
        faultIs("S2", 1);
        faultIs("S0", NONE);
        faultIs("S1", NONE);
        faultIs("S0x", 2);
        faultIs("S0R", 2);
        faultIs("S0r", 3);
        faultIs("S0rr", 3);
        faultIs("S0r/", 3);
        faultIs("S0r:", 3);
        faultIs("S0r0", 4);
        faultIs("S0r9", 4);
        faultIs("S0r00", 4);
        faultIs("S0r1x", 4);
        faultIs("S0r01", NONE);
        faultIs("S0r01 ", 5);
        faultIs("S0r01r", 6);
        faultIs("S0r01r10", NONE);
        faultIs("S0r01x10x", 5);
        String full = "S0r99r99r99r63";
        faultIs(full, NONE);
        faultIs(full + "r", 14);
        faultIs(full + "x", 14);
        faultIs("S0r99r99r99r6", 13);
        faultIs("S0r99r99r99r64", 13);
        faultIs("S0r99r99r99r7", 12);
        String oneLeft = "S1r99r99r99r62";
        faultIs(oneLeft + "r", 15);
        faultIs(oneLeft + "r0", 16);
        faultIs(oneLeft + "r00", 16);
        faultIs(oneLeft + "r01", NONE);
        faultIs(oneLeft + "r02", 16);
        faultIs(oneLeft + "r1", 15);
        String tenLeft = "S1r99r99r99r53";
        faultIs(tenLeft + "r1", 16);
        faultIs(tenLeft + "r10", NONE);
        faultIs(tenLeft + "r11", 16);
        faultIs(tenLeft + "r2", 15);
        String longest = "S0" + "r11".repeat(32);
        faultIs(longest, NONE);
        faultIs(longest + "r", 99);
        faultIs(longest + "q", 98);
    }

    private static void take() {
        WireGuess x = new WireGuess();
        Due.is("5: take() of nothing", x.take(), LATE);
        x.hear(1, 3);
        x.keep(0);
        x.know(2, 7);
        x.seed(44);
        writeAll(x, "S0r02r");
        Due.is("5: take() with a fault", x.take(), LATE);
        Wires.wireIs("5: behind LATE", x, "111");
        Due.is("5: ACTS behind LATE", x.about(8), 1);
        Due.is("5: again(0) behind LATE", x.again(0), 3);
        writeAll(x, "S0r02r03r01");
        x.hear(1, 1);
        x.keep(1);
        Due.is("5: take()", x.take(), 6);
        Wires.wireIs("5: behind take()", x, "001110");
        Due.is("5: no ACTS", x.about(8), 0);
        Due.is("5: undo()", x.undo(), LATE);
        Due.is("5: again(0)", x.again(0), LATE);
        Due.is("5: again(1)", x.again(1), LATE);
        Due.is("5: TEXT stays", x.about(10), 11);
        Due.is("5: KNOWN stays", x.about(9), 1);
        Due.is("5: THE SEED stays", x.seed(0), 44);
        writeAll(x, "S1");
        Due.is("5: take() without RUNS", x.take(), 0);
        writeAll(x, "S1" + "r11".repeat(32));
        Due.is("5: the longest TEXT", x.take(), 352);
        Due.is("5: its EDGES", x.about(1), 31);
        Due.is("5: its last LEVEL", x.level(351), 0);
        writeAll(x, "S1r99r99r99r63");
        Due.is("5: 360 TICKS", x.take(), 360);
    }

    private static void aboutPlain() {
        WireGuess x = of("0011101");
        Due.is("6: TICKS", x.about(0), 7);
        Due.is("6: EDGES", x.about(1), 3);
        Due.is("6: ACTS", x.about(8), 7);
        x.know(0, 1);
        x.know(0, 1);
        Due.is("6: KNOWN", x.about(9), 2);
        x.write(3);
        Due.is("6: letters", x.about(10), 1);
        Due.is("6: about(-1)", x.about(-1), BAD);
        Due.is("6: about(11)", x.about(11), BAD);
        x = new WireGuess();
        x.hear(1, 5);
        x.hear(0, 4);
        Due.is("6: WIDTH of two RUNS", x.about(5), 16);
        x.hear(1, 8);
        x.hear(0, 12);
        x.hear(1, 7);
        Due.is("6: WIDTH of 4, 8, 12", x.about(5), 4);
        x.hear(0, 1);
        Due.is("6: WIDTH of 4, 8, 12, 7", x.about(5), 1);
    }

    /** 15010, 15020, 15110 read 31 here, 16010 reads 63, and no other guess fits. */
    private static final String FOUR_FIT = "101111111";

    private static void aboutGuesses() {
        WireGuess x = of("10111111");
        Due.is("6: one FITS", x.about(2), 1);
        Due.is("6: BEST of one", x.about(3), 15010);
        Due.is("6: ALIKE of one", x.about(4), 1);
        x = of(FOUR_FIT);
        Due.is("6: FIT", x.about(2), 4);
        Due.is("6: BEST is the least CODE of like ones", x.about(3), 15010);
        Due.is("6: ALIKE", x.about(4), 3);
        Due.is("6: LEFT, nothing KNOWN", x.about(6), 4);
        Due.is("6: least of them", x.about(7), 15010);
        x.know(0, 63);
        Due.is("6: LEFT by 63", x.about(6), 1);
        Due.is("6: least by 63", x.about(7), 16010);
        x.know(0, 31);
        Due.is("6: LEFT by both", x.about(6), 0);
        Due.is("6: least by both", x.about(7), NONE);
        x.forget();
        x.know(1, 31);
        Due.is("6: LEFT by a LETTER that is not read", x.about(6), 0);
        Due.is("6: KNOWN leaves BEST alone", x.about(3), 15010);
        x = new WireGuess();
        x.send(88011, 0);
        x.send(88011, 1);
        Due.is("6: BEST by MARGIN", x.about(3), 88011);
        Due.is("6: BEST reads two", x.guess(x.about(3), 0), 2);
    }

    private static void level() {
        WireGuess x = of("01");
        Due.is("7: level(0)", x.level(0), 0);
        Due.is("7: level(1)", x.level(1), 1);
        Due.is("7: level(2)", x.level(2), UNKNOWN);
        Due.is("7: level(-1)", x.level(-1), UNKNOWN);
        x.cut(1);
        Due.is("7: a TICK that is gone", x.level(1), UNKNOWN);
        x = new WireGuess();
        for (int k = 0; k < 4; k++) {
            x.hear(k % 2, 90);
        }
        Due.is("7: level(359)", x.level(359), 1);
        Due.is("7: level(360)", x.level(360), UNKNOWN);
        Due.is("7: level(least int)", x.level(Integer.MIN_VALUE), UNKNOWN);
        Due.is("7: level(greatest int)", x.level(Integer.MAX_VALUE), UNKNOWN);
    }

    private static void run() {
        WireGuess x = of("0011101");
        int[] due = {2, 3, 1, 1, NONE};
        for (int i = 0; i < due.length; i++) {
            Due.is("8: run(" + i + ")", x.run(i), due[i]);
        }
        Due.is("8: run(-1)", x.run(-1), NONE);
        Due.is("8: run(greatest int)", x.run(Integer.MAX_VALUE), NONE);
        Due.is("8: run(least int)", x.run(Integer.MIN_VALUE), NONE);
        x = new WireGuess();
        x.hear(1, 99);
        x.hear(1, 99);
        Due.is("8: TICKS HEARD one behind another are one RUN", x.run(0), 198);
        Due.is("8: run(1)", x.run(1), NONE);
    }

    private static void off() {
        WireGuess x = new WireGuess();
        Due.is("9: off(7) of nothing", x.off(7), 0);
        x.hear(1, 5);
        x.hear(0, 4);
        Due.is("9: off(7) of two RUNS", x.off(7), 0);
        x.hear(1, 8);
        Due.is("9: off(7) of three RUNS", x.off(7), 3);
        x.hear(0, 12);
        x.hear(1, 7);
        int[] due = {0, 0, 2, 0, 5, 4, 6, 8};
        for (int b = 1; b <= due.length; b++) {
            Due.is("9: off(" + b + ")", x.off(b), due[b - 1]);
        }
        Due.is("9: off(16)", x.off(16), 24);
        Due.is("9: off(0)", x.off(0), BAD);
        Due.is("9: off(17)", x.off(17), BAD);
        Due.is("9: off(-4)", x.off(-4), BAD);
    }

    private static void hear() {
        WireGuess x = new WireGuess();
        Due.is("10: hear(1, 2)", x.hear(1, 2), 2);
        Due.is("10: hear(0, 3)", x.hear(0, 3), 5);
        Wires.wireIs("10", x, "11000");
        Due.is("10: hear(2, 1)", x.hear(2, 1), BAD);
        Due.is("10: hear(-1, 1)", x.hear(-1, 1), BAD);
        Due.is("10: hear(1, 0)", x.hear(1, 0), BAD);
        Due.is("10: hear(1, 100)", x.hear(1, 100), BAD);
        Due.is("10: what is refused is no ACT", x.about(8), 2);
        for (int k = 1; k <= 3; k++) {
            Due.is("10: hear(1, 99)", x.hear(1, 99), 5 + 99 * k);
        }
        Due.is("10: no place for 59", x.hear(0, 59), FULL);
        Due.is("10: BAD ahead of FULL", x.hear(3, 99), BAD);
        Due.is("10: just place for 58", x.hear(0, 58), 360);
        Due.is("10: no place for 1", x.hear(0, 1), FULL);
        Due.is("10: TICKS", x.about(0), 360);
    }

    private static void send() {
        WireGuess x = new WireGuess();
        Due.is("11: lowest five bits, even", x.send(25110, 255), 18);
        Wires.wireIs("11: even", x, "11" + "00" + "1111111111" + "11" + "11");
        x = new WireGuess();
        Due.is("11: odd, two stops, turned over", x.send(15221, 6), 10);
        Wires.wireIs("11: odd", x, "0" + "1" + "10011" + "0" + "00");
        x = new WireGuess();
        Due.is("11: no parity", x.send(18010, 0x61), 11);
        Wires.wireIs("11: none", x, "1" + "0" + "10000110" + "1");
        Due.is("11: letter -1", x.send(18010, -1), BAD);
        Due.is("11: letter 256", x.send(18010, 256), BAD);
        int[] bad = {0, 5010, 14010, 19010, 15310, 15000, 15030, 15012, 175010, -15010,
            Integer.MIN_VALUE, Integer.MAX_VALUE};
        for (int code : bad) {
            Due.is("11: send(" + code + ", 1)", x.send(code, 1), BAD);
        }
        Due.is("11: the longest FRAME", x.send(168220, 255), 219);
        Due.is("11: no place", x.send(168220, 255), FULL);
        Due.is("11: BAD ahead of FULL", x.send(168220, 999), BAD);
        x = new WireGuess();
        for (int k = 0; k < 3; k++) {
            x.hear(0, 99);
        }
        x.hear(0, 55);
        Due.is("11: eight places are just enough", x.send(15010, 1), 360);
        x.undo();
        x.hear(0, 1);
        Due.is("11: seven are not", x.send(15010, 1), FULL);
    }

    private static void flip() {
        WireGuess x = of("010");
        Due.is("12: flip(2)", x.flip(2), 1);
        Wires.wireIs("12: behind it", x, "011");
        Due.is("12: flip(2) once more", x.flip(2), 0);
        Due.is("12: flip(3)", x.flip(3), UNKNOWN);
        Due.is("12: flip(-1)", x.flip(-1), UNKNOWN);
        Due.is("12: ACTS", x.about(8), 5);
    }

    private static void cut() {
        WireGuess x = of("01101");
        Due.is("13: cut(0)", x.cut(0), BAD);
        Due.is("13: cut(-1)", x.cut(-1), BAD);
        Due.is("13: cut(6)", x.cut(6), BAD);
        Due.is("13: cut(2)", x.cut(2), 3);
        Wires.wireIs("13: behind it", x, "011");
        Due.is("13: cut(3)", x.cut(3), 0);
        Due.is("13: cut(1) of nothing", x.cut(1), BAD);
        Due.is("13: ACTS", x.about(8), 7);
    }

    private static void undo() {
        WireGuess x = new WireGuess();
        writeAll(x, "S1r02r01");
        x.take();
        x.hear(0, 4);
        x.send(15010, 9);
        x.flip(1);
        x.cut(9);
        x.cut(6);
        Wires.wireIs("14: all cut", x, "");
        Due.is("14: undo() of a cut", x.undo(), 4);
        Wires.wireIs("14: of a cut", x, "100000");
        Due.is("14: undo() of the other", x.undo(), 3);
        Wires.wireIs("14: of the other", x, "1000000" + "1" + "0" + "10010" + "1");
        Due.is("14: undo() of a flip", x.undo(), 2);
        Due.is("14: level(1)", x.level(1), 1);
        Due.is("14: undo() of what was SENT", x.undo(), 1);
        Wires.wireIs("14: of what was SENT", x, "1100000");
        Due.is("14: undo() of what was HEARD", x.undo(), 0);
        Wires.wireIs("14: of what was HEARD", x, "110");
        Due.is("14: undo() of nothing", x.undo(), LATE);
        x.hear(1, 3);
        x.write('q');
        x.know(1, 1);
        x.seed(8);
        x.undo();
        Due.is("14: TEXT is not undone", x.about(10), 9);
        Due.is("14: KNOWN is not undone", x.about(9), 1);
        Due.is("14: THE SEED is not undone", x.seed(0), 8);
        longCut();
    }

    private static void longCut() {
        WireGuess x = new WireGuess();
        StringBuilder before = new StringBuilder();
        for (int k = 0; k < 60; k++) {
            x.hear(1 - k % 2, 1 + k % 11);
            before.append(("" + (1 - k % 2)).repeat(1 + k % 11));
        }
        x.cut(x.about(0));
        x.send(15010, 0);
        x.undo();
        x.undo();
        Wires.wireIs("14: a long cut undone", x, before.toString());
    }

    private static void undoOfFourteen() {
        WireGuess x = new WireGuess();
        for (int k = 1; k <= 17; k++) {
            x.hear(k % 2, k);
            Due.is("14: ACTS", x.about(8), Math.min(14, k));
        }
        for (int k = 13; k >= 0; k--) {
            Due.is("14: undo()", x.undo(), k);
        }
        Due.is("14: the first three are forgotten", x.undo(), LATE);
        Wires.wireIs("14: they stay done", x, "100111");
    }

    private static void guessIs(String when, WireGuess x, int code, int... due) {
        for (int what = 0; what < due.length; what++) {
            Due.is("15: " + when + ", guess(" + code + ", " + what + ")",
                x.guess(code, what), due[what]);
        }
    }

    private static void guessFailures() {
        WireGuess x = of(FOUR_FIT);
        guessIs("it FITS", x, 15010, 1, 1, 0, NONE, 0);
        guessIs("bit 0 is a ONE", x, 25010, 0, 0, 1, 1, NONE);
        guessIs("odd, p is 1", of("101111011"), 15110, 0, 0, 2, 1, NONE);
        guessIs("even, p is 2", x, 15210, 0, 0, 2, 1, NONE);
        guessIs("a stop is a ZERO", x, 15011, 0, 0, 3, 2, NONE);
        guessIs("the second stop is a ZERO", of("101111110"), 15020, 0, 0, 3, 1, NONE);
        guessIs("that TICK is not there", x, 17010, 0, 0, 4, 1, NONE);
        guessIs("bit 0 is not there", x, 165010, 0, 0, 4, 1, NONE);
        guessIs("it is not there ahead of what it would tell", of("10000"), 25010, 0, 0, 4, 1, NONE);
        guessIs("no START", of("1111111"), 15010, 0, 0, 0, NONE, NONE);
        guessIs("a ZERO at TICK 0 is no START", of("0111111"), 15010, 0, 0, 0, NONE, NONE);
        guessIs("nothing", new WireGuess(), 15010, 0, 0, 0, NONE, NONE);
    }

    private static void guessFrames() {
        WireGuess x = of("10" + "11111" + "1" + "0" + "11011" + "1");
        guessIs("a START just behind the stop", x, 15010, 2, 1, 0, NONE, 0);
        x.hear(0, 1);
        guessIs("the third FRAME FAILS", x, 15010, 2, 0, 4, 15, NONE);
        Due.is("16: LETTERS ahead of it are read", x.letter(15010, 1, false), 27);
        Due.is("16: the one that FAILS is none", x.letter(15010, 2, false), NONE);
        x = new WireGuess();
        writeAll(x, "S1r02");
        x.take();
        for (int k = 0; k < 51; k++) {
            x.hear(0, 1);
            x.hear(1, 6);
        }
        guessIs("the most FRAMES", x, 15010, 51, 1, 0, NONE, 0);
        Due.is("16: the last of the most", x.letter(15010, 50, true), 352);
        Due.is("16: behind the last of the most", x.letter(15010, 51, true), NONE);
    }

    private static void guessMargin() {
        WireGuess x = new WireGuess();
        x.send(58010, 0);
        Due.is("15: MARGIN of five", x.guess(58010, 4), 2);
        x = new WireGuess();
        x.send(168011, 255);
        Due.is("15: MARGIN of sixteen", x.guess(168011, 4), 7);
        x.cut(6);
        Due.is("15: MARGIN by the end of the last RUN", x.guess(168011, 4), 1);
        x.cut(1);
        Due.is("15: MARGIN 0", x.guess(168011, 4), 0);
        x.cut(1);
        Due.is("15: MARGIN of none", x.guess(168011, 4), NONE);
        x = new WireGuess();
        x.send(48010, 0);
        x.flip(4);
        Due.is("15: bit 8 is looked at in the last TICK of its RUN", x.guess(48010, 4), 0);
        Due.is("15: a START one later", x.letter(48010, 0, true), 5);
    }

    private static void guessCodes() {
        WireGuess x = of(FOUR_FIT);
        Due.is("15: guess(15010, -1)", x.guess(15010, -1), BAD);
        Due.is("15: guess(15010, 5)", x.guess(15010, 5), BAD);
        Due.is("15: guess(greatest int, 0)", x.guess(Integer.MAX_VALUE, 0), BAD);
        Due.is("15: guess(least int, 0)", x.guess(Integer.MIN_VALUE, 0), BAD);
    }

    private static void letter() {
        WireGuess x = new WireGuess();
        x.send(36221, 0xEA);
        x.send(36221, 5);
        Due.is("16: first", x.letter(36221, 0, false), 0x2A);
        Due.is("16: its START", x.letter(36221, 0, true), 3);
        Due.is("16: second", x.letter(36221, 1, false), 5);
        Due.is("16: its START", x.letter(36221, 1, true), 36);
        Due.is("16: third", x.letter(36221, 2, false), NONE);
        Due.is("16: letter(36221, -1)", x.letter(36221, -1, true), NONE);
        Due.is("16: greatest int", x.letter(36221, Integer.MAX_VALUE, true), NONE);
        Due.is("16: least int", x.letter(36221, Integer.MIN_VALUE, false), NONE);
        Due.is("16: BAD", x.letter(36222, 0, false), BAD);
        Due.is("16: BAD ahead of NONE", x.letter(-1, 9, false), BAD);
    }

    private static void judgeIs(WireGuess x, int n, long row, int due) {
        Due.is("17: judge(" + n + ", " + row + ")", x.judge(n, row), due);
    }

    private static void judgeDoings() {
        WireGuess x = of("110");
        judgeIs(x, 1, 1099, NONE);
        judgeIs(x, 1, 1101, NONE);
        judgeIs(x, 1, 1100, 0);
        judgeIs(x, 1, 1201, 0);
        judgeIs(x, 1, 2002, NONE);
        judgeIs(x, 1, 2003, 0);
        judgeIs(x, 1, 4000, 0);
        judgeIs(x, 1, 4003, NONE);
        judgeIs(x, 1, 4004, 0);
        judgeIs(x, 2, 11012003L, NONE);
        judgeIs(x, 2, 40012002L, 1);
        judgeIs(x, 3, 400340014001L, 1);
        judgeIs(x, 3, 400311022001L, NONE);
        x.hear(1, 99);
        x.hear(0, 99);
        judgeIs(x, 1, 1199, NONE);
        judgeIs(x, 2, 11991060L, NONE);
        judgeIs(x, 2, 11991061L, 1);
        judgeIs(x, 3, 119940011061L, NONE);
        judgeIs(x, 2, 11992299L, NONE);
        judgeIs(x, 2, 11992300L, 1);
    }

    private static void judgeQuestions() {
        WireGuess x = of(FOUR_FIT);
        judgeIs(x, 1, 3002, NONE);
        judgeIs(x, 1, 3003, 0);
        judgeIs(x, 2, 20013000L, NONE);
        judgeIs(x, 2, 10013003L, NONE);
        judgeIs(x, 1, 5011, NONE);
        judgeIs(x, 1, 5010, 0);
        judgeIs(x, 1, 5021, 0);
        judgeIs(x, 1, 5020, NONE);
        judgeIs(x, 1, 5012, 0);
        judgeIs(x, 1, 5022, 0);
        judgeIs(x, 1, 6031, NONE);
        judgeIs(x, 1, 6063, 0);
        judgeIs(x, 2, 20026030L, NONE);
        judgeIs(x, 2, 20015011L, 1);
        judgeIs(x, 2, 20015010L, NONE);
        judgeIs(x, 2, 20016000L, 1);
        judgeIs(x, 3, 200120016031L, NONE);
        judgeIs(new WireGuess(), 1, 5001, 0);
        judgeIs(new WireGuess(), 1, 5000, NONE);
        judgeIs(new WireGuess(), 1, 6000, 0);
        judgeIs(new WireGuess(), 1, 3000, NONE);
        x = new WireGuess();
        x.send(168010, 77);
        judgeIs(x, 2, 51616077L, NONE);
        judgeIs(x, 1, 5160, 0);
    }

    private static void judgeRows() {
        WireGuess x = of("110");
        judgeIs(x, 0, 0, BAD);
        judgeIs(x, 4, 1001, BAD);
        judgeIs(x, -1, 1001, BAD);
        judgeIs(x, 1, -1, BAD);
        judgeIs(x, 1, 10000, BAD);
        judgeIs(x, 1, 9999, 0);
        judgeIs(x, 2, 100000000L, BAD);
        judgeIs(x, 2, 99999999L, 0);
        judgeIs(x, 3, 1000000000000L, BAD);
        judgeIs(x, 3, 999999999999L, 0);
        judgeIs(x, 3, Long.MAX_VALUE, BAD);
        judgeIs(x, 3, Long.MIN_VALUE, BAD);
        judgeIs(x, 1, 0, 0);
        judgeIs(x, 2, 1001, 0);
        judgeIs(x, 2, 10010000L, 1);
        judgeIs(x, 2, 10017001L, 1);
        judgeIs(x, 1, 8001, 0);
    }

    private static void know() {
        WireGuess x = new WireGuess();
        Due.is("18: know(0, 0)", x.know(0, 0), 1);
        Due.is("18: know(9, 255)", x.know(9, 255), 2);
        Due.is("18: know(10, 0)", x.know(10, 0), BAD);
        Due.is("18: know(-1, 0)", x.know(-1, 0), BAD);
        Due.is("18: know(0, 256)", x.know(0, 256), BAD);
        Due.is("18: know(0, -1)", x.know(0, -1), BAD);
        Due.is("18: the same again", x.know(9, 255), 3);
        Due.is("18: another for the same", x.know(9, 254), 4);
        Due.is("18: the fifth", x.know(1, 1), 5);
        Due.is("18: the sixth", x.know(1, 1), FULL);
        Due.is("18: BAD ahead of FULL", x.know(10, 1), BAD);
        Due.is("18: KNOWN", x.about(9), 5);
    }

    private static void forget() {
        WireGuess x = of(FOUR_FIT);
        Due.is("19: forget() of nothing", x.forget(), 0);
        x.know(0, 63);
        x.know(0, 63);
        Due.is("19: LEFT", x.about(6), 1);
        Due.is("19: forget()", x.forget(), 2);
        Due.is("19: KNOWN", x.about(9), 0);
        Due.is("19: LEFT behind it", x.about(6), 4);
    }

    private static void shareIs(WireGuess x, int place, int above, int below) {
        Due.is("20: share(" + place + ", true)", x.share(place, true), above);
        Due.is("20: share(" + place + ", false)", x.share(place, false), below);
    }

    private static void share() {
        WireGuess x = of(FOUR_FIT);
        Due.is("20: nothing is KNOWN", x.share(0, true), UNKNOWN);
        x.know(0, 31);
        shareIs(x, 0, 1, 1);
        x.know(0, 63);
        shareIs(x, 0, 1, 1);
        shareIs(x, 1, 3, 1);
        x.know(1, 5);
        shareIs(x, 0, 1, 2);
        shareIs(x, 1, 3, 2);
        shareIs(x, 2, 2, 1);
        x.know(0, 31);
        shareIs(x, 0, 1, 3);
        shareIs(x, 1, 3, 2);
        shareIs(x, 2, 11, 6);
        x.know(9, 31);
        shareIs(x, 0, 1, 4);
        shareIs(x, 1, 1, 1);
        shareIs(x, 2, 5, 4);
        shareIs(x, 3, 1, 4);
        shareIs(x, 4, 5, 4);
        Due.is("20: share(5, true)", x.share(5, true), UNKNOWN);
        Due.is("20: share(-1, true)", x.share(-1, true), UNKNOWN);
        x = new WireGuess();
        x.know(0, 1);
        shareIs(x, 0, 0, 1);
        x = of("10111111");
        for (int k = 0; k < 5; k++) {
            x.know(1, k);
        }
        shareIs(x, 4, 1, 5);
    }

    private static void chanceIs(WireGuess x, int code, int n, int tenths, int above, int below) {
        String call = "21: chance(" + code + ", " + n + ", " + tenths + ", ";
        Due.is(call + "true)", x.chance(code, n, tenths, true), above);
        Due.is(call + "false)", x.chance(code, n, tenths, false), below);
    }

    private static void chance() {
        WireGuess x = of("10111111");
        int acts = x.about(8);
        chanceIs(x, 15010, 0, 5, 1, 1);
        chanceIs(x, 15010, 1, 3, 7, 10);
        chanceIs(x, 15010, 1, 5, 1, 2);
        chanceIs(x, 15010, 2, 3, 7, 10);
        chanceIs(x, 15010, 6, 3, 7, 10);
        chanceIs(x, 15010, 6, 0, 1, 1);
        chanceIs(x, 15010, 6, 10, 0, 1);
        chanceIs(x, 15110, 6, 3, 0, 1);
        Due.is("21: ACTS", x.about(8), acts);
        chanceIs(new WireGuess(), 15010, 6, 4, 0, 1);
        // With TICK 2 flipped alone, the ONES are odd in number; with TICK 1, there is no place.
        x = of("101111111");
        chanceIs(x, 15110, 1, 2, 4, 5);
        chanceIs(x, 15110, 2, 2, 16, 25);
        Due.is("21: chance(1, 3, 5, true)", x.chance(1, 3, 5, true), BAD);
        Due.is("21: n -1", x.chance(15010, -1, 5, true), BAD);
        Due.is("21: n 7", x.chance(15010, 7, 5, true), BAD);
        Due.is("21: x -1", x.chance(15010, 1, -1, true), BAD);
        Due.is("21: x 11", x.chance(15010, 1, 11, false), BAD);
        // An even number of flips among the five data bits keeps the parity; with the first edge
        // flipped there is no place for a FRAME any more.
        x = of("1" + "0" + "10101" + "1" + "1");
        chanceIs(x, 15110, 6, 0, 1, 1);
        chanceIs(x, 15110, 6, 5, 1, 4);
    }

    private static void seed() {
        WireGuess x = new WireGuess();
        Due.is("22: at first", x.seed(Long.MIN_VALUE), 0);
        Due.is("22: seed(-1)", x.seed(-1), Long.MIN_VALUE);
        Due.is("22: seed(7)", x.seed(7), -1);
        x.drawn(15010, 0);
        x.drawn(15310, 1);
        Due.is("22: a refused drawn leaves it", x.seed(0), 7);
    }

    private static void drawn() {
        WireGuess x = of("11");
        Due.is("23: drawn(15010, 1)", x.drawn(15010, 1), 1);
        long once = 1442695040888963407L;
        Due.is("23: THE SEED behind one", x.seed(0), once);
        x.drawn(15010, 3);
        long thrice = once;
        for (int k = 0; k < 2; k++) {
            thrice = thrice * 6364136223846793005L + 1442695040888963407L;
        }
        Due.is("23: THE SEED behind three", x.seed(0), thrice);
        Due.is("23: drawn(15010, 0)", x.drawn(15010, 0), BAD);
        Due.is("23: drawn(15010, 11)", x.drawn(15010, 11), BAD);
        Due.is("23: drawn(5010, 1)", x.drawn(5010, 1), BAD);
        Wires.wireIs("23: nothing else changes", x, "11");
        Due.is("23: ACTS", x.about(8), 2);
        Due.is("23: ten in 360 TICKS, seven with place", new WireGuess().drawn(48110, 10), 49);
        drawnFlips();
    }

    private static void drawnFlips() {
        // v = 256 * 3: the letter 0 is sent, tick 3 is there, v / 131072 is 0: it is flipped.
        WireGuess x = new WireGuess();
        x.seed(seedFor(256L * 3));
        Due.is("23: the flip of a data bit", x.drawn(15010, 1), 1);
        x.seed(seedFor(256L * 1));
        Due.is("23: the flip of the START", x.drawn(15010, 1), 0);
        x.seed(seedFor(256L * 7));
        Due.is("23: the flip of the stop", x.drawn(15010, 1), 0);
        x.seed(seedFor(256L * 401));
        Due.is("23: 401 is 1", x.drawn(15010, 1), 0);
        x.seed(seedFor(256L * 8));
        Due.is("23: no TICK 8", x.drawn(15010, 1), 1);
        // v / 256 is 2 * 400 + 1, v / 131072 is 1: not flipped; 5 * 400 + 1, 3: not; 2048 + .., 4: flipped.
        x.seed(seedFor(256L * 801));
        Due.is("23: v / 131072 % 4 is 1", x.drawn(15010, 1), 1);
        x.seed(seedFor(256L * 2001));
        Due.is("23: v / 131072 % 4 is 3", x.drawn(15010, 1), 1);
        x.seed(seedFor(256L * 2401));
        Due.is("23: v / 131072 % 4 is 0 again", x.drawn(15010, 1), 0);
    }

    /** The seed whose next x has v in its highest 31 bits: the step undone. */
    private static long seedFor(long v) {
        long inverse = 1;
        for (int k = 0; k < 6; k++) {
            inverse *= 2 - 6364136223846793005L * inverse;
        }
        return ((v << 33) - 1442695040888963407L) * inverse;
    }

    private static void keepAndAgain() {
        WireGuess x = of("10");
        Due.is("24: keep(0)", x.keep(0), 2);
        Due.is("24: ACTS stay", x.about(8), 2);
        Due.is("24: keep(2)", x.keep(2), UNKNOWN);
        Due.is("24: keep(-1)", x.keep(-1), UNKNOWN);
        Due.is("25: again(2)", x.again(2), UNKNOWN);
        Due.is("25: again(-1)", x.again(-1), UNKNOWN);
        Due.is("25: again(1)", x.again(1), LATE);
        Due.is("25: ACTS behind LATE", x.about(8), 2);
        x.hear(1, 5);
        Due.is("24: keep(1)", x.keep(1), 7);
        x.flip(0);
        x.know(3, 3);
        x.seed(6);
        x.write('S');
        Due.is("25: again(0)", x.again(0), 2);
        Wires.wireIs("25: behind again(0)", x, "10");
        Due.is("25: no ACTS", x.about(8), 0);
        Due.is("25: undo()", x.undo(), LATE);
        Due.is("25: KNOWN stays", x.about(9), 1);
        Due.is("25: THE SEED stays", x.seed(0), 6);
        Due.is("25: TEXT stays", x.about(10), 1);
        x.flip(1);
        Due.is("25: again(0) once more", x.again(0), 2);
        Wires.wireIs("25: what is kept stays as it was", x, "10");
        Due.is("25: again(1)", x.again(1), 7);
        Wires.wireIs("25: behind again(1)", x, "1011111");
        x.cut(7);
        Due.is("24: keep(1) of nothing", x.keep(1), 0);
        x.hear(1, 1);
        Due.is("25: again(1) of nothing", x.again(1), 0);
    }
}
