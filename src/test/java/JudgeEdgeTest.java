/** Promise 17: the bounds of what is JUDGED, doing by doing. */
public final class JudgeEdgeTest {
    private static final int BAD = Wires.BAD, NONE = Wires.NONE;

    private JudgeEdgeTest() {
    }

    public static void main(String[] args) {
        from1To3Doings();
        rowOf0OrMore();
        fourFiguresEach();
        noSuchDoing();
        heardLevel();
        heardTicks();
        heardPlace();
        flippedTick();
        edges();
        cutTicks();
        bestIsOfABit();
        bestIsNotOfABit();
        bestIsNone();
        bitsThatNoneIsOf();
        neitherOneNorNought();
        firstLetter();
        firstLetterOfNone();
        whatIsAheadIsDone();
        theFirstThatCanNotBe();
        whatCanNotBeIsNotDone();
        Due.close("JudgeEdgeTest");
    }

    private static void judgeIs(String when, WireGuess x, int n, long row, int due) {
        Due.is("17: " + when + ", judge(" + n + ", " + row + ")", x.judge(n, row), due);
    }

    private static void from1To3Doings() {
        WireGuess x = Wires.of("110");
        judgeIs("1 doing", x, 1, 3001L, NONE);
        judgeIs("2 doings", x, 2, 30013001L, NONE);
        judgeIs("3 doings", x, 3, 300130013001L, NONE);
        int[] bad = {0, 4, -1, 5, Wires.LEAST, Wires.GREATEST};
        for (int n : bad) {
            judgeIs("n", x, n, 3001L, BAD);
            judgeIs("n, row 0", x, n, 0L, BAD);
        }
    }

    private static void rowOf0OrMore() {
        WireGuess x = Wires.of("110");
        for (int n = 1; n <= 3; n++) {
            judgeIs("row 0 is no refusal", x, n, 0L, 0);
            judgeIs("row -1", x, n, -1L, BAD);
            judgeIs("row -3001", x, n, -3001L, BAD);
            judgeIs("the least row", x, n, Long.MIN_VALUE, BAD);
        }
    }

    private static void fourFiguresEach() {
        WireGuess x = Wires.of("110");
        judgeIs("the greatest of 1", x, 1, 9999L, 0);
        judgeIs("too long for 1", x, 1, 10000L, BAD);
        judgeIs("too long for 1", x, 1, 13001L, BAD);
        judgeIs("the greatest of 2", x, 2, 99999999L, 0);
        judgeIs("too long for 2", x, 2, 100000000L, BAD);
        judgeIs("the greatest of 3", x, 3, 999999999999L, 0);
        judgeIs("too long for 3", x, 3, 1000000000000L, BAD);
        for (int n = 1; n <= 3; n++) {
            judgeIs("the greatest row", x, n, Long.MAX_VALUE, BAD);
            judgeIs("2 ** 32 and a doing", x, n, (1L << 44) + 3001L, BAD);
        }
        judgeIs("five figures are the first doing's, too", x, 2, 13001L, 0);
        judgeIs("the first doing is the highest", x, 2, 30013002L, 1);
        judgeIs("the first doing is the highest", x, 2, 30023001L, 0);
    }

    private static void noSuchDoing() {
        WireGuess x = Wires.of("110");
        int[] firsts = {0, 7, 8, 9};
        for (int first : firsts) {
            judgeIs("a doing by " + first, x, 1, first * 1000L + 1, 0);
            judgeIs("a doing by " + first, x, 2, 30010000L + first * 1000L + 101, 1);
        }
    }

    private static void heardLevel() {
        WireGuess x = Wires.of("110");
        judgeIs("LEVEL 0", x, 2, 10013001L, NONE);
        judgeIs("LEVEL 1", x, 2, 11013002L, NONE);
        for (int level = 2; level <= 9; level++) {
            judgeIs("no LEVEL", x, 1, 1001L + 100 * level, 0);
        }
    }

    private static void heardTicks() {
        WireGuess x = Wires.of("110");
        judgeIs("00 TICKS of 0", x, 1, 1000L, 0);
        judgeIs("00 TICKS of 1", x, 1, 1100L, 0);
        judgeIs("01 is heard", x, 3, 110120032004L, 2);
        judgeIs("99 are heard", x, 3, 119921012102L, 2);
    }

    private static void heardPlace() {
        WireGuess x = Wires.high(261);
        judgeIs("just place for 99", x, 1, 1099L, NONE);
        judgeIs("no place behind them", x, 2, 10991001L, 1);
        x.hear(1, 1);
        judgeIs("no place for 99", x, 1, 1099L, 0);
        judgeIs("place for 98", x, 1, 1098L, NONE);
        judgeIs("CUT makes place", x, 2, 40011099L, NONE);
        judgeIs("of a full wire", Wires.high(360), 1, 1101L, 0);
    }

    private static void flippedTick() {
        WireGuess x = Wires.of("110");
        judgeIs("TICK 0", x, 2, 20003002L, NONE);
        judgeIs("the last", x, 2, 20023000L, NONE);
        judgeIs("behind the last", x, 1, 2003L, 0);
        judgeIs("999", x, 1, 2999L, 0);
        judgeIs("of nothing", new WireGuess(), 1, 2000L, 0);
        judgeIs("359 of 360", Wires.high(360), 2, 23593001L, NONE);
        judgeIs("360 of 360", Wires.high(360), 1, 2360L, 0);
    }

    private static void edges() {
        judgeIs("none of nothing", new WireGuess(), 1, 3000L, NONE);
        judgeIs("one of nothing", new WireGuess(), 1, 3001L, 0);
        WireGuess x = Wires.everyTickAnEdge();
        judgeIs("359", x, 1, 3359L, NONE);
        judgeIs("358", x, 1, 3358L, 0);
        judgeIs("360", x, 1, 3360L, 0);
        judgeIs("999", x, 1, 3999L, 0);
    }

    private static void cutTicks() {
        WireGuess x = Wires.of("110");
        judgeIs("none", x, 1, 4000L, 0);
        judgeIs("one", x, 2, 40013000L, NONE);
        judgeIs("all", x, 2, 40032000L, 1);
        judgeIs("all and one", x, 1, 4004L, 0);
        judgeIs("of nothing", new WireGuess(), 1, 4001L, 0);
        judgeIs("360", Wires.high(360), 1, 4360L, NONE);
        judgeIs("361", Wires.high(360), 1, 4361L, 0);
    }

    private static void bestIsOfABit() {
        WireGuess x = Wires.of("10111111");
        judgeIs("BEST is of 1", x, 1, 5011L, NONE);
        judgeIs("not of 0", x, 1, 5001L, 0);
        judgeIs("not of 2", x, 1, 5021L, 0);
        judgeIs("not of 10", x, 1, 5101L, 0);
        x = new WireGuess();
        x.send(168010, 77);
        judgeIs("BEST is of 16", x, 1, 5161L, NONE);
        judgeIs("not of 6", x, 1, 5061L, 0);
        judgeIs("not of 15", x, 1, 5151L, 0);
        judgeIs("not of 17", x, 1, 5171L, 0);
    }

    private static void bestIsNotOfABit() {
        WireGuess x = Wires.of("10111111");
        judgeIs("it is of 1", x, 1, 5010L, 0);
        judgeIs("it is not of 2", x, 1, 5020L, NONE);
        judgeIs("it is not of 16", x, 1, 5160L, NONE);
    }

    /** "(NONE is not)": it is of no bit. */
    private static void bestIsNone() {
        WireGuess x = Wires.of("1111");
        for (int b = 1; b <= 16; b++) {
            judgeIs("NONE is of no bit", x, 1, 5001L + 10 * b, 0);
            judgeIs("NONE is not of it", x, 1, 5000L + 10 * b, NONE);
        }
    }

    /** BEST can not be of a bit that no guess has, so that it is so that it is not. */
    private static void bitsThatNoneIsOf() {
        WireGuess x = Wires.of("10111111");
        int[] bits = {0, 17, 50, 99};
        for (int b : bits) {
            judgeIs("of no guess's bit", x, 1, 5001L + 10 * b, 0);
            judgeIs("not of no guess's bit", x, 1, 5000L + 10 * b, NONE);
        }
    }

    private static void neitherOneNorNought() {
        WireGuess x = Wires.of("10111111");
        for (int last = 2; last <= 9; last++) {
            judgeIs("its bit", x, 1, 5010L + last, 0);
            judgeIs("another bit", x, 1, 5020L + last, 0);
            judgeIs("of NONE", new WireGuess(), 1, 5010L + last, 0);
        }
    }

    private static void firstLetter() {
        WireGuess x = new WireGuess();
        x.send(28010, 0);
        judgeIs("000", x, 1, 6000L, NONE);
        judgeIs("001", x, 1, 6001L, 0);
        x = new WireGuess();
        x.send(58110, 255);
        x.send(58110, 170);
        judgeIs("255", x, 1, 6255L, NONE);
        judgeIs("254", x, 1, 6254L, 0);
        judgeIs("256", x, 1, 6256L, 0);
        judgeIs("999", x, 1, 6999L, 0);
        judgeIs("the second LETTER", x, 1, 6170L, 0);
    }

    private static void firstLetterOfNone() {
        judgeIs("BEST is NONE", new WireGuess(), 1, 6000L, 0);
        WireGuess x = new WireGuess();
        x.send(58110, 255);
        judgeIs("it reads 255", x, 1, 6255L, NONE);
        judgeIs("nothing is left of it", x, 2, 40606255L, 1);
        judgeIs("nor of its first TICK", x, 2, 40596255L, 1);
        judgeIs("asked ahead of it, then of nothing", x, 3, 625540606255L, 2);
        judgeIs("nothing is 0", x, 2, 40606000L, 1);
    }

    private static void whatIsAheadIsDone() {
        WireGuess x = Wires.of("110");
        judgeIs("HEARD, then FLIPPED", x, 2, 10022004L, NONE);
        judgeIs("HEARD, then FLIPPED", x, 2, 10022005L, 1);
        judgeIs("CUT, then FLIPPED", x, 2, 40012002L, 1);
        judgeIs("FLIPPED twice", x, 3, 200120013001L, NONE);
        judgeIs("asked, then done", x, 2, 30012002L, NONE);
        judgeIs("CUT all, then HEARD", x, 3, 400311022001L, NONE);
        judgeIs("CUT all, then CUT", x, 2, 40034001L, 1);
        x = Wires.of("1011111");
        judgeIs("a TICK more, and BEST is there", x, 3, 501011015011L, NONE);
        judgeIs("its LETTER", x, 3, 110120026030L, NONE);
        judgeIs("each call begins anew", x, 1, 5011L, 0);
    }

    private static void theFirstThatCanNotBe() {
        WireGuess x = Wires.of("110");
        judgeIs("the first of three", x, 3, 300230023002L, 0);
        judgeIs("the second of three", x, 3, 300130023002L, 1);
        judgeIs("the third of three", x, 3, 300130013002L, 2);
        judgeIs("none of three", x, 3, 300130013001L, NONE);
        judgeIs("only the second", x, 3, 300130023001L, 1);
    }

    /** What is behind it is not looked at, so the wire ends as it was ahead of it. */
    private static void whatCanNotBeIsNotDone() {
        WireGuess x = Wires.of("110");
        judgeIs("HEARD, then what can not be", x, 3, 110440092001L, 1);
        Wires.wireIs("17: THE WIRE", x, "110");
        Due.is("17: ACTS", x.about(8), 2);
        judgeIs("and again", x, 1, 3001L, NONE);
    }
}
