import java.util.function.Consumer;
import java.util.function.Function;
import java.util.function.ToLongFunction;

/**
 * Objects that were brought to one state by the same calls. One of them has a call more; if that
 * call may change nothing, all that can be asked of it and of its twin is alike.
 */
final class Twins {
    private Twins() {
    }

    static final Consumer<WireGuess> EMPTY = x -> { };

    /** Something of everything, and place for more. */
    static final Consumer<WireGuess> SOME = x -> {
        x.hear(1, 4);
        x.keep(1);
        x.send(25110, 9);
        x.flip(2);
        x.cut(1);
        Wires.writeAll(x, "S0r03r12");
        x.know(0, 9);
        x.know(1, 4);
        x.seed(77);
    };

    /** THE TEXT has a fault, so that take() is LATE. */
    static final Consumer<WireGuess> FAULTY = x -> {
        SOME.accept(x);
        x.write('r');
    };

    /** No place for a letter of THE TEXT, a TICK, what is KNOWN; ACTS are forgotten. */
    static final Consumer<WireGuess> FILLED = x -> {
        Wires.writeAll(x, "S1" + "r11".repeat(32) + "r");
        x.hear(1, 9);
        x.hear(0, 1);
        x.keep(0);
        for (int k = 0; k < 9; k++) {
            x.send(28110, 255 - 3 * k);
            x.flip(20 * k);
        }
        x.keep(1);
        x.hear(0, 99);
        x.hear(1, 35);
        for (int k = 0; k < 5; k++) {
            x.know(k, 255 - 3 * k);
        }
        x.seed(Long.MIN_VALUE);
    };

    /** Each asks of a fresh object one thing that a call might have changed. */
    private static final String[] NAMES = {"counts", "THE TEXT", "THE TEXT's length",
        "what is KNOWN", "THE SEED", "SLOT 0", "SLOT 1", "THE WIRE"};
    private static final int MOST_UNDONE = 15;

    private static String told(int which, WireGuess x) {
        switch (which) {
            case 0:
                return counts(x);
            case 1:
                return x.fault() + " " + x.take() + " " + Wires.runs(x);
            case 2:
                return x.wipe() + " " + x.fault() + " " + x.write('S');
            case 3:
                return known(x);
            case 4:
                return "" + x.seed(0);
            case 5:
            case 6:
                return x.again(which - 5) + " " + Wires.levels(x);
            default:
                return undone(x, which - 7) + " " + Wires.levels(x);
        }
    }

    private static String nameOf(int which) {
        return which < NAMES.length ? NAMES[which] : "the last " + (which - 7) + " ACTS";
    }

    private static String counts(WireGuess x) {
        StringBuilder counts = new StringBuilder();
        for (int what = 0; what <= 10; what++) {
            counts.append(x.about(what)).append(' ');
        }
        return counts.toString();
    }

    private static int undone(WireGuess x, int times) {
        int left = x.about(8);
        for (int k = 0; k < times; k++) {
            left = x.undo();
        }
        return left;
    }

    private static String known(WireGuess x) {
        StringBuilder known = new StringBuilder();
        for (int place = 0; place < 6; place++) {
            known.append(x.share(place, true)).append('/').append(x.share(place, false)).append(' ');
        }
        return known.append(x.forget()).toString();
    }

    private static WireGuess made(Consumer<WireGuess> state) {
        WireGuess x = new WireGuess();
        state.accept(x);
        return x;
    }

    /** The call answers what is due, and all else is as it is without the call. */
    static void leaves(String call, Consumer<WireGuess> state, ToLongFunction<WireGuess> made,
            long due) {
        Due.is(call, made.applyAsLong(made(state)), due);
        same(call, state, x -> "" + made.applyAsLong(x));
    }

    /** All else is as it is without the call, whatever it answers. */
    static void same(String call, Consumer<WireGuess> state, Function<WireGuess, String> asked) {
        for (int which = 0; which < NAMES.length + MOST_UNDONE; which++) {
            WireGuess tried = made(state);
            String answer = asked.apply(tried);
            String without = told(which, made(state));
            String with = told(which, tried);
            Due.holds(call + " answered " + answer + "; " + nameOf(which) + " without it: " + without
                + ", with it: " + with, with.equals(without));
        }
    }
}
