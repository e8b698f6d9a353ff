/** Promises 24 and 25: the bounds of SLOTS. */
public final class SlotEdgeTest {
    private static final int UNKNOWN = Wires.UNKNOWN, LATE = Wires.LATE, FULL = Wires.FULL;
    private static final int[] NO_SLOTS = {-1, 2, 3, -2, Wires.LEAST, Wires.GREATEST};

    private SlotEdgeTest() {
    }

    public static void main(String[] args) {
        slotsFrom0To1();
        noneWasKept();
        unknownAheadOfLate();
        emptyAndFullWires();
        slotsAreApart();
        keptOnceMore();
        keptAsItWas();
        goingOnTwice();
        noActsWhenOneGoesOn();
        keepIsNoAct();
        lateLeavesActs();
        goneBehindATake();
        stillThereBehindALateTake();
        notUndone();
        textKnownSeedAreNotKept();
        Due.close("SlotEdgeTest");
    }

    private static void slotsFrom0To1() {
        WireGuess x = Wires.of("110");
        Due.is("24: keep(0)", x.keep(0), 3);
        Due.is("24: keep(1)", x.keep(1), 3);
        Due.is("25: again(0)", x.again(0), 3);
        Due.is("25: again(1)", x.again(1), 3);
        for (int slot : NO_SLOTS) {
            Due.is("24: keep(" + slot + ")", x.keep(slot), UNKNOWN);
            Due.is("25: again(" + slot + ")", x.again(slot), UNKNOWN);
        }
    }

    private static void noneWasKept() {
        WireGuess x = Wires.of("110");
        Due.is("25: again(0)", x.again(0), LATE);
        Due.is("25: again(1)", x.again(1), LATE);
        x.keep(-1);
        x.keep(2);
        Due.is("25: again(0) behind UNKNOWN", x.again(0), LATE);
        Due.is("25: again(1) behind UNKNOWN", x.again(1), LATE);
        x.keep(1);
        Due.is("25: again(0), the other was kept", x.again(0), LATE);
        Due.is("25: again(1)", x.again(1), 3);
        x = Wires.of("110");
        x.keep(0);
        Due.is("25: again(1), the other was kept", x.again(1), LATE);
        Due.is("25: again(0)", x.again(0), 3);
    }

    private static void unknownAheadOfLate() {
        for (int slot : NO_SLOTS) {
            Due.is("25: nothing was kept, again(" + slot + ")", new WireGuess().again(slot), UNKNOWN);
        }
    }

    private static void emptyAndFullWires() {
        WireGuess x = new WireGuess();
        Due.is("24: keep(0) of nothing", x.keep(0), 0);
        x.hear(1, 99);
        x.hear(0, 99);
        x.hear(1, 99);
        x.hear(0, 63);
        Due.is("24: keep(1) of 360", x.keep(1), 360);
        Due.is("25: again(0) is nothing, not LATE", x.again(0), 0);
        Due.is("25: no TICK", x.level(0), UNKNOWN);
        Due.is("25: no START", x.about(1), 0);
        Due.is("25: again(1)", x.again(1), 360);
        Wires.wireIs("25: all of it", x, "1".repeat(99) + "0".repeat(99) + "1".repeat(99)
            + "0".repeat(63));
        Due.is("25: it is full", x.hear(1, 1), FULL);
    }

    private static void slotsAreApart() {
        WireGuess x = Wires.of("110");
        x.keep(0);
        x.hear(1, 2);
        x.keep(1);
        x.cut(5);
        x.again(0);
        Wires.wireIs("25: SLOT 0", x, "110");
        x.again(1);
        Wires.wireIs("25: SLOT 1", x, "11011");
        x.again(0);
        Wires.wireIs("25: SLOT 0 once more", x, "110");
    }

    private static void keptOnceMore() {
        WireGuess x = Wires.of("110");
        x.keep(0);
        x.cut(2);
        Due.is("24: a shorter one in its place", x.keep(0), 1);
        x.hear(0, 9);
        Due.is("25: again(0)", x.again(0), 1);
        x.hear(0, 4);
        Due.is("24: a longer one in its place", x.keep(0), 5);
        x.flip(1);
        x.again(0);
        Wires.wireIs("25: again(0)", x, "10000");
    }

    private static void keptAsItWas() {
        WireGuess x = Wires.of("110");
        x.keep(0);
        x.flip(0);
        x.flip(1);
        x.hear(1, 4);
        x.again(0);
        Wires.wireIs("25: flipped behind it", x, "110");
        x.cut(3);
        x.hear(0, 3);
        x.again(0);
        Wires.wireIs("25: cut and heard behind it", x, "110");
    }

    /** What goes on is not the kept one itself. */
    private static void goingOnTwice() {
        WireGuess x = Wires.of("110");
        x.keep(1);
        x.again(1);
        x.flip(2);
        x.hear(0, 1);
        Wires.wireIs("25: behind the first", x, "1110");
        Due.is("25: the second", x.again(1), 3);
        Wires.wireIs("25: behind the second", x, "110");
    }

    private static void noActsWhenOneGoesOn() {
        WireGuess x = new WireGuess();
        for (int k = 0; k < 20; k++) {
            x.hear(k % 2, 3);
        }
        x.keep(0);
        Due.is("24: ACTS stay", x.about(8), 14);
        Due.is("25: again(0)", x.again(0), 60);
        Due.is("25: no ACTS", x.about(8), 0);
        Due.is("25: undo()", x.undo(), LATE);
        x.hear(1, 2);
        Due.is("25: the only ACT", x.undo(), 0);
        Due.is("25: TICKS", x.about(0), 60);
    }

    private static void keepIsNoAct() {
        WireGuess x = Wires.of("110");
        x.keep(0);
        x.keep(1);
        Due.is("24: ACTS", x.about(8), 2);
        Due.is("24: undo() of the last ACT", x.undo(), 1);
        Wires.wireIs("24: behind it", x, "11");
    }

    private static void lateLeavesActs() {
        WireGuess x = Wires.of("110");
        Due.is("25: LATE", x.again(0), LATE);
        Due.is("25: UNKNOWN", x.again(2), UNKNOWN);
        Due.is("25: ACTS", x.about(8), 2);
        Wires.wireIs("25: THE WIRE", x, "110");
    }

    private static void goneBehindATake() {
        WireGuess x = Wires.of("110");
        x.keep(0);
        x.keep(1);
        Wires.writeAll(x, "S0");
        Due.is("5: take()", x.take(), 0);
        Due.is("25: SLOT 0 is gone", x.again(0), LATE);
        Due.is("25: SLOT 1 is gone", x.again(1), LATE);
        Due.is("24: kept again", x.keep(0), 0);
        Due.is("25: it is there", x.again(0), 0);
    }

    private static void stillThereBehindALateTake() {
        WireGuess x = Wires.of("110");
        x.keep(0);
        x.keep(1);
        x.write('S');
        Due.is("5: take()", x.take(), LATE);
        Due.is("25: SLOT 0", x.again(0), 3);
        Due.is("25: SLOT 1", x.again(1), 3);
    }

    private static void notUndone() {
        WireGuess x = Wires.of("110");
        x.keep(0);
        x.undo();
        x.undo();
        Due.is("25: kept ahead of undo()", x.again(0), 3);
        Wires.wireIs("25: as it was", x, "110");
    }

    private static void textKnownSeedAreNotKept() {
        WireGuess x = Wires.of("110");
        x.write('S');
        x.know(1, 2);
        x.seed(5);
        x.keep(0);
        x.write('1');
        x.know(2, 3);
        x.seed(6);
        x.again(0);
        Due.is("25: THE TEXT", x.about(10), 2);
        Due.is("25: KNOWN", x.about(9), 2);
        Due.is("25: THE SEED", x.seed(0), 6);
    }
}
