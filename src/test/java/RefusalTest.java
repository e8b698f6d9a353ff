import java.util.function.Consumer;

/**
 * "REFUSALS, of several the first that a call names (in just that row)", "What is refused changes
 * nothing", "In what follows nothing is changed": each refused or asking call on an empty object,
 * on one with something of everything, and on a full one.
 */
public final class RefusalTest {
    private static final int UNKNOWN = Wires.UNKNOWN, BAD = Wires.BAD, LATE = Wires.LATE,
        FULL = Wires.FULL;
    private static final int OK = 25110;

    private RefusalTest() {
    }

    public static void main(String[] args) {
        everywhere("empty", Twins.EMPTY, 0, 0);
        everywhere("some", Twins.SOME, 21, 2);
        everywhere("faulty", Twins.FAULTY, 21, 2);
        everywhere("full", Twins.FILLED, 360, 5);
        late();
        full();
        firstOfSeveral();
        asked("empty", Twins.EMPTY);
        asked("some", Twins.SOME);
        asked("full", Twins.FILLED);
        drawnButForTheSeed();
        Due.close("RefusalTest");
    }

    /** Calls that are refused whatever the state is, and those just behind its bounds. */
    private static void everywhere(String name, Consumer<WireGuess> state, int ticks, int known) {
        theTake(name, state, ticks);
        theActs(name, state, ticks);
        theGuesses(name, state);
        theKnown(name, state, known);
        theChances(name, state);
        theSlots(name, state);
    }

    private static void theTake(String name, Consumer<WireGuess> state, int ticks) {
        String on = name + ": ";
        Twins.leaves(on + "write(-1)", state, x -> x.write(-1), BAD);
        Twins.leaves(on + "write(256)", state, x -> x.write(256), BAD);
        Twins.leaves(on + "about(-1)", state, x -> x.about(-1), BAD);
        Twins.leaves(on + "about(11)", state, x -> x.about(11), BAD);
        Twins.leaves(on + "level(-1)", state, x -> x.level(-1), UNKNOWN);
        Twins.leaves(on + "level(" + ticks + ")", state, x -> x.level(ticks), UNKNOWN);
        Twins.leaves(on + "off(0)", state, x -> x.off(0), BAD);
        Twins.leaves(on + "off(17)", state, x -> x.off(17), BAD);
    }

    private static void theActs(String name, Consumer<WireGuess> state, int ticks) {
        String on = name + ": ";
        Twins.leaves(on + "hear(-1, 1)", state, x -> x.hear(-1, 1), BAD);
        Twins.leaves(on + "hear(2, 1)", state, x -> x.hear(2, 1), BAD);
        Twins.leaves(on + "hear(1, 0)", state, x -> x.hear(1, 0), BAD);
        Twins.leaves(on + "hear(1, -1)", state, x -> x.hear(1, -1), BAD);
        Twins.leaves(on + "hear(0, 100)", state, x -> x.hear(0, 100), BAD);
        for (int code : Wires.NO_CODES) {
            Twins.leaves(on + "send(" + code + ", 1)", state, x -> x.send(code, 1), BAD);
        }
        Twins.leaves(on + "send(OK, -1)", state, x -> x.send(OK, -1), BAD);
        Twins.leaves(on + "send(OK, 256)", state, x -> x.send(OK, 256), BAD);
        Twins.leaves(on + "flip(-1)", state, x -> x.flip(-1), UNKNOWN);
        Twins.leaves(on + "flip(" + ticks + ")", state, x -> x.flip(ticks), UNKNOWN);
        Twins.leaves(on + "cut(-1)", state, x -> x.cut(-1), BAD);
        Twins.leaves(on + "cut(0)", state, x -> x.cut(0), BAD);
        Twins.leaves(on + "cut(all and 1)", state, x -> x.cut(ticks + 1), BAD);
    }

    private static void theGuesses(String name, Consumer<WireGuess> state) {
        String on = name + ": ";
        for (int code : Wires.NO_CODES) {
            Twins.leaves(on + "guess(" + code + ", 0)", state, x -> x.guess(code, 0), BAD);
            Twins.leaves(on + "letter(" + code + ", 0)", state, x -> x.letter(code, 0, true), BAD);
        }
        Twins.leaves(on + "guess(OK, -1)", state, x -> x.guess(OK, -1), BAD);
        Twins.leaves(on + "guess(OK, 5)", state, x -> x.guess(OK, 5), BAD);
        Twins.leaves(on + "judge(0, 0)", state, x -> x.judge(0, 0), BAD);
        Twins.leaves(on + "judge(4, 3000)", state, x -> x.judge(4, 3000), BAD);
        Twins.leaves(on + "judge(1, -1)", state, x -> x.judge(1, -1), BAD);
        Twins.leaves(on + "judge(1, 10000)", state, x -> x.judge(1, 10000), BAD);
        Twins.leaves(on + "judge(2, 10 ** 8)", state, x -> x.judge(2, 100000000L), BAD);
        Twins.leaves(on + "judge(3, 10 ** 12)", state, x -> x.judge(3, 1000000000000L), BAD);
    }

    private static void theKnown(String name, Consumer<WireGuess> state, int known) {
        String on = name + ": ";
        Twins.leaves(on + "know(-1, 0)", state, x -> x.know(-1, 0), BAD);
        Twins.leaves(on + "know(10, 0)", state, x -> x.know(10, 0), BAD);
        Twins.leaves(on + "know(0, -1)", state, x -> x.know(0, -1), BAD);
        Twins.leaves(on + "know(0, 256)", state, x -> x.know(0, 256), BAD);
        Twins.leaves(on + "share(-1)", state, x -> x.share(-1, true), UNKNOWN);
        Twins.leaves(on + "share(-1) below", state, x -> x.share(-1, false), UNKNOWN);
        Twins.leaves(on + "share(" + known + ")", state, x -> x.share(known, true), UNKNOWN);
        Twins.leaves(on + "share(" + known + ") below", state, x -> x.share(known, false), UNKNOWN);
    }

    private static void theChances(String name, Consumer<WireGuess> state) {
        String on = name + ": ";
        for (int code : Wires.NO_CODES) {
            Twins.leaves(on + "chance(" + code + ")", state, x -> x.chance(code, 1, 1, true), BAD);
            Twins.leaves(on + "drawn(" + code + ", 1)", state, x -> x.drawn(code, 1), BAD);
        }
        Twins.leaves(on + "chance(OK, -1)", state, x -> x.chance(OK, -1, 1, true), BAD);
        Twins.leaves(on + "chance(OK, 7)", state, x -> x.chance(OK, 7, 1, false), BAD);
        Twins.leaves(on + "chance(OK, 1, -1)", state, x -> x.chance(OK, 1, -1, true), BAD);
        Twins.leaves(on + "chance(OK, 1, 11)", state, x -> x.chance(OK, 1, 11, false), BAD);
        Twins.leaves(on + "drawn(OK, 0)", state, x -> x.drawn(OK, 0), BAD);
        Twins.leaves(on + "drawn(OK, -1)", state, x -> x.drawn(OK, -1), BAD);
        Twins.leaves(on + "drawn(OK, 11)", state, x -> x.drawn(OK, 11), BAD);
    }

    private static void theSlots(String name, Consumer<WireGuess> state) {
        String on = name + ": ";
        Twins.leaves(on + "keep(-1)", state, x -> x.keep(-1), UNKNOWN);
        Twins.leaves(on + "keep(2)", state, x -> x.keep(2), UNKNOWN);
        Twins.leaves(on + "again(-1)", state, x -> x.again(-1), UNKNOWN);
        Twins.leaves(on + "again(2)", state, x -> x.again(2), UNKNOWN);
    }

    private static void late() {
        Twins.leaves("empty: take()", Twins.EMPTY, x -> x.take(), LATE);
        Twins.leaves("faulty: take()", Twins.FAULTY, x -> x.take(), LATE);
        Twins.leaves("full: take()", Twins.FILLED, x -> x.take(), LATE);
        Twins.leaves("empty: undo()", Twins.EMPTY, x -> x.undo(), LATE);
        Twins.leaves("no ACTS: undo()", x -> {
            Twins.SOME.accept(x);
            x.take();
        }, x -> x.undo(), LATE);
        Twins.leaves("all undone: undo()", x -> {
            Twins.SOME.accept(x);
            for (int k = 0; k < 4; k++) {
                x.undo();
            }
        }, x -> x.undo(), LATE);
        Twins.leaves("empty: again(0)", Twins.EMPTY, x -> x.again(0), LATE);
        Twins.leaves("empty: again(1)", Twins.EMPTY, x -> x.again(1), LATE);
        Twins.leaves("some: again(0)", Twins.SOME, x -> x.again(0), LATE);
    }

    private static void full() {
        Twins.leaves("full: write(0)", Twins.FILLED, x -> x.write(0), FULL);
        Twins.leaves("full: write(255)", Twins.FILLED, x -> x.write(255), FULL);
        Twins.leaves("full: hear(0, 1)", Twins.FILLED, x -> x.hear(0, 1), FULL);
        Twins.leaves("full: hear(1, 99)", Twins.FILLED, x -> x.hear(1, 99), FULL);
        Twins.leaves("full: send(15010, 0)", Twins.FILLED, x -> x.send(15010, 0), FULL);
        Twins.leaves("full: send(168221, 255)", Twins.FILLED, x -> x.send(168221, 255), FULL);
        Twins.leaves("full: know(0, 0)", Twins.FILLED, x -> x.know(0, 0), FULL);
        Twins.leaves("full: know(9, 255)", Twins.FILLED, x -> x.know(9, 255), FULL);
        Twins.leaves("full: know() of what is KNOWN", Twins.FILLED, x -> x.know(0, 255), FULL);
        Twins.leaves("some: no place for a letter of 208 TICKS", x -> {
            Twins.SOME.accept(x);
            x.hear(0, 99);
            x.hear(1, 33);
        }, x -> x.send(168221, 255), FULL);
        Twins.leaves("some: no place for 99", x -> {
            Twins.SOME.accept(x);
            x.send(168221, 255);
            x.hear(1, 33);
        }, x -> x.hear(0, 99), FULL);
    }

    /** Both faults at once: the row is BAD, FULL; UNKNOWN, LATE; BAD of any argument is BAD. */
    private static void firstOfSeveral() {
        Twins.leaves("write: BAD, then FULL", Twins.FILLED, x -> x.write(256), BAD);
        Twins.leaves("hear: BAD level, then FULL", Twins.FILLED, x -> x.hear(2, 9), BAD);
        Twins.leaves("hear: BAD n, then FULL", Twins.FILLED, x -> x.hear(0, 100), BAD);
        Twins.leaves("hear: both BAD", Twins.FILLED, x -> x.hear(-1, 0), BAD);
        Twins.leaves("send: BAD code, then FULL", Twins.FILLED, x -> x.send(15012, 9), BAD);
        Twins.leaves("send: BAD letter, then FULL", Twins.FILLED, x -> x.send(15010, 256), BAD);
        Twins.leaves("send: both BAD", Twins.FILLED, x -> x.send(0, -1), BAD);
        Twins.leaves("know: BAD i, then FULL", Twins.FILLED, x -> x.know(10, 9), BAD);
        Twins.leaves("know: BAD v, then FULL", Twins.FILLED, x -> x.know(9, 256), BAD);
        Twins.leaves("know: both BAD", Twins.FILLED, x -> x.know(-1, -1), BAD);
        Twins.leaves("again: UNKNOWN, then LATE", Twins.EMPTY, x -> x.again(2), UNKNOWN);
        Twins.leaves("letter: BAD where there is no i", Twins.SOME, x -> x.letter(0, -1, true), BAD);
        Twins.leaves("guess: both BAD", Twins.SOME, x -> x.guess(0, 5), BAD);
        Twins.leaves("judge: both BAD", Twins.SOME, x -> x.judge(0, -1), BAD);
        Twins.leaves("chance: all BAD", Twins.SOME, x -> x.chance(0, 7, 11, false), BAD);
        Twins.leaves("drawn: both BAD", Twins.SOME, x -> x.drawn(0, 0), BAD);
    }

    private static void asked(String name, Consumer<WireGuess> state) {
        String on = name + ": ";
        Twins.same(on + "fault()", state, x -> "" + x.fault());
        for (int k = 0; k <= 10; k++) {
            int what = k;
            Twins.same(on + "about(" + k + ")", state, x -> "" + x.about(what));
        }
        Twins.same(on + "level(0)", state, x -> "" + x.level(0));
        Twins.same(on + "run(0)", state, x -> "" + x.run(0));
        Twins.same(on + "off(3)", state, x -> "" + x.off(3));
        for (int k = 0; k <= 4; k++) {
            int what = k;
            Twins.same(on + "guess(OK, " + k + ")", state, x -> "" + x.guess(OK, what));
        }
        Twins.same(on + "letter(OK, 0, false)", state, x -> "" + x.letter(OK, 0, false));
        Twins.same(on + "letter(OK, 0, true)", state, x -> "" + x.letter(OK, 0, true));
        long[] rows = {110110034001L, 400120005010L, 200060651161L, 400240011003L, 0L};
        for (long row : rows) {
            Twins.same(on + "judge(3, " + row + ")", state, x -> "" + x.judge(3, row));
        }
        Twins.same(on + "share(0)", state, x -> "" + x.share(0, true));
        Twins.same(on + "chance(OK, 6, 5)", state, x -> "" + x.chance(OK, 6, 5, true));
        Twins.same(on + "chance(OK, 6, 10)", state, x -> "" + x.chance(OK, 6, 10, false));
    }

    /** "(Nothing changes but THE SEED.)" */
    private static void drawnButForTheSeed() {
        Twins.same("empty: drawn(OK, 10)", Twins.EMPTY, x -> x.drawn(OK, 10) + " " + x.seed(0));
        Twins.same("some: drawn(OK, 10)", Twins.SOME, x -> x.drawn(OK, 10) + " " + x.seed(77));
        Twins.same("full: drawn(OK, 10)", Twins.FILLED,
            x -> x.drawn(OK, 10) + " " + x.seed(Long.MIN_VALUE));
    }
}
