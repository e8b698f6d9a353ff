import java.util.ArrayList;
import java.util.List;

/** A guess that FITS, and what it reads. */
final class Fit {
    final int code;
    final int margin;
    final List<Integer> letters = new ArrayList<>();

    private Fit(WireGuess x, int code) {
        this.code = code;
        margin = x.guess(code, 4);
        int frames = x.guess(code, 0);
        for (int i = 0; i < frames; i++) {
            letters.add(x.letter(code, i, false));
        }
    }

    /** All of them, asked one by one: a new object for each, as one is good for 512 calls. */
    static List<Fit> of(String levels) {
        List<Fit> fits = new ArrayList<>();
        for (int code : Wires.codes()) {
            WireGuess x = Wires.of(levels);
            if (x.guess(code, 1) == 1) {
                fits.add(new Fit(x, code));
            }
        }
        return fits;
    }

    boolean reads(int i, int v) {
        return i < letters.size() && letters.get(i) == v;
    }

    boolean isBetterThan(Fit other) {
        if (margin != other.margin) {
            return margin > other.margin;
        }
        if (letters.size() != other.letters.size()) {
            return letters.size() > other.letters.size();
        }
        return code < other.code;
    }
}
