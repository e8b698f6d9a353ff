/**
 * A signal on one wire that nobody told anything of, and the guesses by which it can be read.
 *
 * Every row is made when the object is made and is used again by each call, so that calls make
 * nothing that is kept.
 */
public final class WireGuess {
    public static final int UNKNOWN = -1, BAD = -2, LATE = -3, FULL = -4, NONE = -9;

    private static final int MOST_TICKS = 360;
    private static final int MOST_WRITTEN = 99;
    private static final int MOST_HEARD = 99;
    private static final int MOST_ACTS = 14;
    private static final int MOST_KNOWN = 5;
    private static final int MOST_DOINGS = 3;
    private static final int MOST_SHAKY_EDGES = 6;
    private static final int MOST_DRAWN = 10;
    private static final int SLOTS = 2;
    private static final int LONGEST_BIT = 16;
    private static final int GUESSES = 768;
    private static final int GREATEST_LETTER = 255;

    /** The shortest frame has 7 ticks, so 360 ticks hold 51; one turn more finds that it ends. */
    private static final int MOST_FRAMES = 60;

    private static final long SEED_FACTOR = 6364136223846793005L;
    private static final long SEED_STEP = 1442695040888963407L;

    private final Text text = new Text();
    private final Wire wire = new Wire();
    /** Where calls that change nothing do what they are asked about. */
    private final Wire trial = new Wire();
    private final Slots slots = new Slots();
    private final Acts acts = new Acts();
    private final Known known = new Known();
    private final Guess asked = new Guess();
    private final Reader reader = new Reader();
    private final Ranking ranking = new Ranking();
    private final int[] shakyTicks = new int[MOST_SHAKY_EDGES];
    private long seedNow = 0L;

    public WireGuess() {
    }

    // ---- the take

    public int write(int letter) {
        if (!isLetter(letter)) {
            return BAD;
        }
        if (text.isFull()) {
            return FULL;
        }
        text.add(letter);
        return text.length;
    }

    public int wipe() {
        int was = text.length;
        text.length = 0;
        return was;
    }

    public int fault() {
        return text.firstFault();
    }

    public int take() {
        if (text.firstFault() != NONE) {
            return LATE;
        }
        text.layOn(wire);
        acts.clear();
        slots.clear();
        return wire.ticks;
    }

    public int about(int what) {
        switch (what) {
            case 0:
                return wire.ticks;
            case 1:
                reader.listenTo(wire);
                return reader.runs.edges();
            case 2:
                ranking.rank(wire, reader);
                return ranking.fits;
            case 3:
                ranking.rank(wire, reader);
                return ranking.best;
            case 4:
                ranking.rank(wire, reader);
                return ranking.countAlike(reader);
            case 5:
                reader.listenTo(wire);
                return reader.runs.width();
            case 6:
                ranking.sift(wire, reader, known);
                return ranking.left;
            case 7:
                ranking.sift(wire, reader, known);
                return ranking.leastLeft;
            case 8:
                return acts.size;
            case 9:
                return known.size;
            case 10:
                return text.length;
            default:
                return BAD;
        }
    }

    public int level(int tick) {
        return wire.has(tick) ? wire.levelAt(tick) : UNKNOWN;
    }

    public int run(int i) {
        reader.listenTo(wire);
        return reader.runs.ticksOfRun(i);
    }

    public int off(int b) {
        if (b < 1 || b > LONGEST_BIT) {
            return BAD;
        }
        reader.listenTo(wire);
        return reader.runs.offBy(b);
    }

    // ---- acts

    public int hear(int level, int n) {
        if (!isLevel(level) || n < 1 || n > MOST_HEARD) {
            return BAD;
        }
        if (!wire.hasPlaceFor(n)) {
            return FULL;
        }
        wire.extend(level, n);
        acts.noteGrown(n);
        return wire.ticks;
    }

    public int send(int code, int letter) {
        if (!asked.isToldBy(code) || !isLetter(letter)) {
            return BAD;
        }
        int n = asked.ticksOfLetter();
        if (!wire.hasPlaceFor(n)) {
            return FULL;
        }
        wire.extendByLetter(asked, letter);
        acts.noteGrown(n);
        return wire.ticks;
    }

    public int flip(int tick) {
        if (!wire.has(tick)) {
            return UNKNOWN;
        }
        wire.turnOver(tick);
        acts.noteFlipped(tick);
        return wire.levelAt(tick);
    }

    public int cut(int n) {
        if (n < 1 || n > wire.ticks) {
            return BAD;
        }
        acts.noteCut(wire, n);
        wire.shorten(n);
        return wire.ticks;
    }

    public int undo() {
        if (acts.size == 0) {
            return LATE;
        }
        acts.takeBackLast(wire);
        return acts.size;
    }

    // ---- guesses

    public int guess(int code, int what) {
        if (!asked.isToldBy(code) || what < 0 || what > 4) {
            return BAD;
        }
        reader.listenTo(wire);
        reader.read(asked);
        switch (what) {
            case 0:
                return reader.frames;
            case 1:
                return reader.fits() ? 1 : 0;
            case 2:
                return reader.failure;
            case 3:
                return reader.failedStart;
            default:
                return reader.fits() ? reader.margin : NONE;
        }
    }

    public int letter(int code, int i, boolean start) {
        if (!asked.isToldBy(code)) {
            return BAD;
        }
        reader.listenTo(wire);
        reader.read(asked);
        return start ? reader.startAt(i) : reader.letterAt(i);
    }

    public int judge(int n, long row) {
        if (n < 1 || n > MOST_DOINGS || row < 0L || withoutLastDoings(row, n) != 0L) {
            return BAD;
        }
        trial.copy(wire);
        for (int place = 0; place < n; place++) {
            int doing = (int) (withoutLastDoings(row, n - 1 - place) % 10000L);
            if (!isSo(doing / 1000, doing % 1000)) {
                return place;
            }
        }
        return NONE;
    }

    // ---- known

    public int know(int i, int v) {
        if (i < 0 || i > 9 || !isLetter(v)) {
            return BAD;
        }
        if (known.isFull()) {
            return FULL;
        }
        known.add(i, v);
        return known.size;
    }

    public int forget() {
        int was = known.size;
        known.size = 0;
        return was;
    }

    public int share(int place, boolean upper) {
        if (place < 0 || place >= known.size) {
            return UNKNOWN;
        }
        int sixtieths = ranking.sixtiethsRuledOut(wire, reader, known, place);
        return inLeastTerms(sixtieths, 60, upper);
    }

    // ---- chances

    public int chance(int code, int n, int x, boolean upper) {
        if (!asked.isToldBy(code) || n < 0 || n > MOST_SHAKY_EDGES || x < 0 || x > 10) {
            return BAD;
        }
        int shaky = findShakyTicks(n);
        int all = 1;
        for (int k = 0; k < shaky; k++) {
            all *= 10;
        }
        int fitting = 0;
        for (int flips = 0; flips < 1 << shaky; flips++) {
            if (fitsWithFlips(flips, shaky)) {
                fitting += weightOf(flips, shaky, x);
            }
        }
        return inLeastTerms(fitting, all, upper);
    }

    public long seed(long v) {
        long was = seedNow;
        seedNow = v;
        return was;
    }

    public int drawn(int code, int m) {
        if (!asked.isToldBy(code) || m < 1 || m > MOST_DRAWN) {
            return BAD;
        }
        trial.copy(wire);
        int frames = 0;
        for (int k = 0; k < m; k++) {
            seedNow = seedNow * SEED_FACTOR + SEED_STEP;
            doDrawn((int) (seedNow >>> 33));
            reader.listenTo(trial);
            reader.read(asked);
            frames += reader.frames;
        }
        return frames;
    }

    // ---- slots

    public int keep(int slot) {
        if (!slots.has(slot)) {
            return UNKNOWN;
        }
        slots.store(slot, wire);
        return wire.ticks;
    }

    public int again(int slot) {
        if (!slots.has(slot)) {
            return UNKNOWN;
        }
        if (!slots.isUsed(slot)) {
            return LATE;
        }
        slots.restore(slot, wire);
        acts.clear();
        return wire.ticks;
    }

    // ---- inside

    private static boolean isLevel(int level) {
        return level == 0 || level == 1;
    }

    private static boolean isLetter(int letter) {
        return letter >= 0 && letter <= GREATEST_LETTER;
    }

    private static long withoutLastDoings(long row, int doings) {
        long rest = row;
        for (int k = 0; k < doings; k++) {
            rest /= 10000L;
        }
        return rest;
    }

    /** Does or asks one told doing on the trial wire; false: it can not be, or is not so. */
    private boolean isSo(int kind, int told) {
        switch (kind) {
            case 1:
                return couldHear(told / 100, told % 100);
            case 2:
                return couldFlip(told);
            case 3:
                reader.listenTo(trial);
                return reader.runs.edges() == told;
            case 4:
                return couldCut(told);
            case 5:
                return isBestBit(told / 10, told % 10);
            case 6:
                ranking.rank(trial, reader);
                return ranking.best != NONE && ranking.bestLetters[0] == told;
            default:
                return false;
        }
    }

    private boolean couldHear(int level, int n) {
        if (!isLevel(level) || n < 1 || !trial.hasPlaceFor(n)) {
            return false;
        }
        trial.extend(level, n);
        return true;
    }

    private boolean couldFlip(int tick) {
        if (!trial.has(tick)) {
            return false;
        }
        trial.turnOver(tick);
        return true;
    }

    private boolean couldCut(int n) {
        if (n < 1 || n > trial.ticks) {
            return false;
        }
        trial.shorten(n);
        return true;
    }

    private boolean isBestBit(int bit, int yes) {
        if (yes != 0 && yes != 1) {
            return false;
        }
        ranking.rank(trial, reader);
        boolean isOfBit = ranking.best != NONE && ranking.best / 10000 == bit;
        return isOfBit == (yes == 1);
    }

    private int findShakyTicks(int n) {
        int found = 0;
        for (int tick = 1; tick < wire.ticks && found < n && found < MOST_SHAKY_EDGES; tick++) {
            if (wire.isEdge(tick)) {
                shakyTicks[found] = tick;
                found++;
            }
        }
        return found;
    }

    private boolean fitsWithFlips(int flips, int shaky) {
        trial.copy(wire);
        for (int k = 0; k < shaky && k < MOST_SHAKY_EDGES; k++) {
            if ((flips >> k & 1) == 1) {
                trial.turnOver(shakyTicks[k]);
            }
        }
        reader.listenTo(trial);
        reader.read(asked);
        return reader.fits();
    }

    private static int weightOf(int flips, int shaky, int tenths) {
        int weight = 1;
        for (int k = 0; k < shaky; k++) {
            weight *= (flips >> k & 1) == 1 ? tenths : 10 - tenths;
        }
        return weight;
    }

    private void doDrawn(int v) {
        if (trial.hasPlaceFor(asked.ticksOfLetter())) {
            trial.extendByLetter(asked, v & GREATEST_LETTER);
        }
        int tick = v / 256 % 400;
        if (trial.has(tick) && v / 131072 % 4 == 0) {
            trial.turnOver(tick);
        }
    }

    private static int inLeastTerms(int above, int below, boolean upper) {
        int told = upper ? above : below;
        int divisor = greatestCommonDivisor(above, below);
        return divisor > 0 ? told / divisor : told;
    }

    private static int greatestCommonDivisor(int a, int b) {
        int greater = a;
        int rest = b;
        for (int k = 0; k < 64 && rest != 0; k++) {
            int next = greater % rest;
            greater = rest;
            rest = next;
        }
        return greater;
    }

    /** The levels, tick by tick. */
    private static final class Wire {
        private final int[] levels = new int[MOST_TICKS];
        private int ticks = 0;

        boolean has(int tick) {
            return tick >= 0 && tick < ticks;
        }

        boolean hasPlaceFor(int n) {
            return n <= MOST_TICKS - ticks;
        }

        int levelAt(int tick) {
            return tick >= 0 && tick < ticks ? levels[tick] : NONE;
        }

        boolean isEdge(int tick) {
            return tick > 0 && tick < ticks && levels[tick] != levels[tick - 1];
        }

        void extend(int level, int n) {
            for (int k = 0; k < n && ticks < MOST_TICKS; k++) {
                levels[ticks] = level;
                ticks++;
            }
        }

        void extendByLetter(Guess guess, int letter) {
            int bit = guess.bit;
            int ones = 0;
            extend(guess.idle, bit);
            extend(1 - guess.idle, bit);
            for (int k = 0; k < guess.data; k++) {
                int one = letter >> k & 1;
                ones += one;
                extend(guess.levelOf(one), bit);
            }
            if (guess.parity != 0) {
                extend(guess.levelOf(guess.parityFor(ones)), bit);
            }
            extend(guess.idle, guess.stops * bit);
        }

        void turnOver(int tick) {
            if (has(tick)) {
                levels[tick] = 1 - levels[tick];
            }
        }

        void shorten(int n) {
            ticks = Math.max(0, ticks - n);
        }

        void copy(Wire other) {
            ticks = other.ticks;
            System.arraycopy(other.levels, 0, levels, 0, MOST_TICKS);
        }
    }

    /** The letters that may tell a take. */
    private static final class Text {
        private final int[] letters = new int[MOST_WRITTEN];
        private int length = 0;

        boolean isFull() {
            return length >= MOST_WRITTEN;
        }

        void add(int letter) {
            if (!isFull()) {
                letters[length] = letter;
                length++;
            }
        }

        int firstFault() {
            if (signAt(0) != 'S') {
                return 0;
            }
            if (signAt(1) != '0' && signAt(1) != '1') {
                return 1;
            }
            int ticks = 0;
            for (int place = 2; place < length; place += 3) {
                int fault = faultOfRun(place, ticks);
                if (fault != NONE) {
                    return fault;
                }
                ticks += ticksToldAt(place);
            }
            return NONE;
        }

        void layOn(Wire wire) {
            int level = signAt(1) == '1' ? 1 : 0;
            wire.shorten(MOST_TICKS);
            for (int place = 2; place < length; place += 3) {
                wire.extend(level, ticksToldAt(place));
                level = 1 - level;
            }
        }

        /** A sign that is missing at the end is a fault at that place, which is the length. */
        private int faultOfRun(int place, int ticksAhead) {
            int placeLeft = MOST_TICKS - ticksAhead;
            if (signAt(place) != 'r' || placeLeft < 1) {
                return place;
            }
            int tens = figureAt(place + 1);
            if (tens == NONE || 10 * tens > placeLeft) {
                return place + 1;
            }
            int ones = figureAt(place + 2);
            int told = 10 * tens + ones;
            if (ones == NONE || told < 1 || told > placeLeft) {
                return place + 2;
            }
            return NONE;
        }

        private int ticksToldAt(int place) {
            return 10 * figureAt(place + 1) + figureAt(place + 2);
        }

        private int figureAt(int place) {
            int sign = signAt(place);
            return sign >= '0' && sign <= '9' ? sign - '0' : NONE;
        }

        private int signAt(int place) {
            return place >= 0 && place < length ? letters[place] : NONE;
        }
    }

    /** One way to read the wire, as a code tells it. */
    private static final class Guess {
        private int bit = 1;
        private int data = 5;
        private int parity = 0;
        private int stops = 1;
        private int idle = 1;

        /** True, and it is that guess from then on, if the code tells one. */
        boolean isToldBy(int code) {
            int b = code / 10000;
            int d = code / 1000 % 10;
            int p = code / 100 % 10;
            int s = code / 10 % 10;
            int i = code % 10;
            if (code < 0 || b < 1 || b > LONGEST_BIT || d < 5 || d > 8) {
                return false;
            }
            if (p > 2 || s < 1 || s > 2 || i > 1) {
                return false;
            }
            bit = b;
            data = d;
            parity = p;
            stops = s;
            idle = 1 - i;
            return true;
        }

        /** Codes rise with the number, so that the first of like guesses is the least. */
        void become(int number) {
            bit = number / 48 + 1;
            data = number / 12 % 4 + 5;
            parity = number / 4 % 3;
            stops = number / 2 % 2 + 1;
            idle = 1 - number % 2;
        }

        int code() {
            return bit * 10000 + data * 1000 + parity * 100 + stops * 10 + 1 - idle;
        }

        int bitsOfFrame() {
            return 1 + data + (parity == 0 ? 0 : 1) + stops;
        }

        int ticksOfLetter() {
            return bit * (1 + bitsOfFrame());
        }

        int tickOfBit(int start, int number) {
            return start + bit * number + bit / 2;
        }

        int levelOf(int one) {
            return one == 1 ? idle : 1 - idle;
        }

        /** The parity bit that must stand behind so many ones. */
        int parityFor(int ones) {
            return parity == 1 ? ones % 2 : 1 - ones % 2;
        }
    }

    /** The stretches of one level. */
    private static final class Runs {
        private final int[] first = new int[MOST_TICKS];
        private final int[] last = new int[MOST_TICKS];
        private int ticks = 0;
        private int runs = 0;

        void mark(Wire wire) {
            ticks = wire.ticks;
            runs = 0;
            int from = 0;
            for (int tick = 0; tick < ticks && tick < MOST_TICKS; tick++) {
                if (tick == 0 || wire.isEdge(tick)) {
                    from = tick;
                    runs++;
                }
                first[tick] = from;
            }
            int to = ticks - 1;
            for (int tick = to; tick >= 0 && tick < MOST_TICKS; tick--) {
                last[tick] = to;
                if (first[tick] == tick) {
                    to = tick - 1;
                }
            }
        }

        int edges() {
            return Math.max(0, runs - 1);
        }

        /** The first tick of the run behind that of a tick; NONE: there is none. */
        int nextEdge(int tick) {
            int next = tick >= 0 && tick < ticks ? last[tick] + 1 : ticks;
            return next < ticks ? next : NONE;
        }

        int ticksOfRun(int i) {
            if (i < 0 || i >= runs) {
                return NONE;
            }
            int tick = 0;
            for (int k = 0; k < i; k++) {
                tick = nextEdge(tick);
            }
            return lengthFrom(tick);
        }

        /** How far a tick lies off the nearer end of its run. */
        int inset(int tick) {
            if (tick < 0 || tick >= ticks) {
                return 0;
            }
            int behindFirst = tick - first[tick];
            int aheadOfLast = last[tick] - tick;
            return behindFirst < aheadOfLast ? behindFirst : aheadOfLast;
        }

        int offBy(int b) {
            int sum = 0;
            int tick = nextEdge(0);
            for (int k = 1; k < runs - 1; k++) {
                sum += offOfRun(lengthFrom(tick), b);
                tick = nextEdge(tick);
            }
            return sum;
        }

        int width() {
            int width = 1;
            int least = offBy(1);
            for (int b = 2; b <= LONGEST_BIT; b++) {
                int off = offBy(b);
                if (off <= least) {
                    least = off;
                    width = b;
                }
            }
            return width;
        }

        private int lengthFrom(int tick) {
            return tick >= 0 && tick < ticks ? last[tick] - tick + 1 : NONE;
        }

        private static int offOfRun(int length, int b) {
            if (length < b || b < 1) {
                return b - length;
            }
            int over = length % b;
            return Math.min(over, b - over);
        }
    }

    /** Reads a wire by a guess. */
    private static final class Reader {
        private static final int ENDED = 0;
        private static final int NO_START = 1;
        private static final int WRONG_PARITY = 2;
        private static final int NO_STOP = 3;
        private static final int NO_TICK = 4;

        private final Runs runs = new Runs();
        private final int[] letters = new int[MOST_FRAMES];
        private final int[] starts = new int[MOST_FRAMES];
        private int frames = 0;
        private int failure = ENDED;
        private int failedStart = NONE;
        private int margin = MOST_TICKS;
        /** Never null: an empty one, until there is one to listen to. */
        private Wire heard = new Wire();

        /** Runs are marked once for all the guesses that are read behind it. */
        void listenTo(Wire wire) {
            heard = wire;
            runs.mark(wire);
        }

        void read(Guess guess) {
            frames = 0;
            failure = ENDED;
            failedStart = NONE;
            margin = MOST_TICKS;
            int on = 0;
            for (int k = 0; k < MOST_FRAMES; k++) {
                int start = nextStart(on, guess.idle);
                if (start == NONE) {
                    return;
                }
                int letter = readFrame(guess, start);
                if (letter == NONE) {
                    failedStart = start;
                    return;
                }
                letters[k] = letter;
                starts[k] = start;
                frames = k + 1;
                on = guess.tickOfBit(start, guess.bitsOfFrame() - 1);
            }
        }

        boolean fits() {
            return failure == ENDED && frames > 0;
        }

        int letterAt(int i) {
            return i >= 0 && i < frames ? letters[i] : NONE;
        }

        int startAt(int i) {
            return i >= 0 && i < frames ? starts[i] : NONE;
        }

        /** Neither tick 0 nor a stop can be a start itself, so the search begins at an edge. */
        private int nextStart(int on, int idle) {
            int edge = runs.nextEdge(on);
            return heard.levelAt(edge) == idle ? runs.nextEdge(edge) : edge;
        }

        /** The letter; NONE, if it fails. */
        private int readFrame(Guess guess, int start) {
            int letter = 0;
            int ones = 0;
            int bits = guess.bitsOfFrame();
            for (int k = 0; k < bits; k++) {
                int tick = guess.tickOfBit(start, k);
                int one = heard.levelAt(tick) == guess.idle ? 1 : 0;
                failure = heard.has(tick) ? failureOfBit(guess, k, one, ones) : NO_TICK;
                if (failure != ENDED) {
                    return NONE;
                }
                if (k >= 1 && k <= guess.data) {
                    letter |= one << k - 1;
                    ones += one;
                }
                margin = Math.min(margin, runs.inset(tick));
            }
            return letter;
        }

        private static int failureOfBit(Guess guess, int number, int one, int ones) {
            if (number == 0) {
                return one == 1 ? NO_START : ENDED;
            }
            if (number <= guess.data) {
                return ENDED;
            }
            if (number == guess.data + 1 && guess.parity != 0) {
                return (ones + one) % 2 == guess.parity - 1 ? ENDED : WRONG_PARITY;
            }
            return one == 1 ? ENDED : NO_STOP;
        }
    }

    /** What all the guesses together tell of a wire. */
    private static final class Ranking {
        private final Guess tried = new Guess();
        private final int[] bestLetters = new int[MOST_FRAMES];
        private int fits = 0;
        private int best = NONE;
        private int bestMargin = 0;
        private int bestFrames = 0;
        private int left = 0;
        private int leastLeft = NONE;

        void rank(Wire wire, Reader reader) {
            fits = 0;
            best = NONE;
            bestMargin = 0;
            bestFrames = 0;
            reader.listenTo(wire);
            for (int number = 0; number < GUESSES; number++) {
                tried.become(number);
                reader.read(tried);
                if (reader.fits()) {
                    fits++;
                    if (isBetter(reader)) {
                        becomeBest(reader);
                    }
                }
            }
        }

        /** Behind rank() alone: it goes by the best one that was found there. */
        int countAlike(Reader reader) {
            int alike = 0;
            for (int number = 0; number < GUESSES; number++) {
                tried.become(number);
                reader.read(tried);
                if (reader.fits() && readsLikeBest(reader)) {
                    alike++;
                }
            }
            return alike;
        }

        void sift(Wire wire, Reader reader, Known known) {
            left = 0;
            leastLeft = NONE;
            reader.listenTo(wire);
            for (int number = 0; number < GUESSES; number++) {
                tried.become(number);
                reader.read(tried);
                if (reader.fits() && known.refuters(reader) == 0) {
                    left++;
                    leastLeft = leastLeft == NONE ? tried.code() : leastLeft;
                }
            }
        }

        /**
         * A guess is ruled out by whichever of its refuters comes first, and in each order as
         * likely each of them is the first equally often: so each has an equal part of it.
         */
        int sixtiethsRuledOut(Wire wire, Reader reader, Known known, int place) {
            int sum = 0;
            reader.listenTo(wire);
            for (int number = 0; number < GUESSES; number++) {
                tried.become(number);
                reader.read(tried);
                int refuters = reader.fits() ? known.refuters(reader) : 0;
                int count = Integer.bitCount(refuters);
                if (count > 0 && (refuters >> place & 1) == 1) {
                    sum += 60 / count;
                }
            }
            return sum;
        }

        private boolean isBetter(Reader reader) {
            if (best == NONE || reader.margin != bestMargin) {
                return best == NONE || reader.margin > bestMargin;
            }
            return reader.frames > bestFrames;
        }

        private void becomeBest(Reader reader) {
            best = tried.code();
            bestMargin = reader.margin;
            bestFrames = reader.frames;
            System.arraycopy(reader.letters, 0, bestLetters, 0, MOST_FRAMES);
        }

        private boolean readsLikeBest(Reader reader) {
            if (reader.frames != bestFrames) {
                return false;
            }
            for (int k = 0; k < bestFrames && k < MOST_FRAMES; k++) {
                if (reader.letters[k] != bestLetters[k]) {
                    return false;
                }
            }
            return true;
        }
    }

    /** Letters that are known to have been sent. */
    private static final class Known {
        private final int[] numbers = new int[MOST_KNOWN];
        private final int[] values = new int[MOST_KNOWN];
        private int size = 0;

        boolean isFull() {
            return size >= MOST_KNOWN;
        }

        void add(int number, int value) {
            if (!isFull()) {
                numbers[size] = number;
                values[size] = value;
                size++;
            }
        }

        /** Bit k is 1, if what is known at place k is not what was read. */
        int refuters(Reader reader) {
            int refuters = 0;
            for (int k = 0; k < size && k < MOST_KNOWN; k++) {
                if (reader.letterAt(numbers[k]) != values[k]) {
                    refuters |= 1 << k;
                }
            }
            return refuters;
        }
    }

    /** The last acts, as a ring, with what it takes to undo them. */
    private static final class Acts {
        private static final int GROWN = 0;
        private static final int FLIPPED = 1;
        private static final int CUT = 2;
        private static final int WORDS = 6;

        private final int[] kinds = new int[MOST_ACTS];
        private final int[] amounts = new int[MOST_ACTS];
        /** The levels that were cut, one bit each, six words for each act. */
        private final long[] gone = new long[MOST_ACTS * WORDS];
        private int first = 0;
        private int size = 0;

        void clear() {
            size = 0;
        }

        void noteGrown(int n) {
            note(GROWN, n);
        }

        void noteFlipped(int tick) {
            note(FLIPPED, tick);
        }

        /** Ahead of the cut, as the levels are gone behind it. */
        void noteCut(Wire wire, int n) {
            int word = WORDS * note(CUT, n);
            for (int k = 0; k < WORDS; k++) {
                gone[word + k] = 0L;
            }
            for (int k = 0; k < n && k < MOST_TICKS; k++) {
                if (wire.levelAt(wire.ticks - n + k) == 1) {
                    gone[word + k / 64] |= 1L << k % 64;
                }
            }
        }

        void takeBackLast(Wire wire) {
            if (size == 0) {
                return;
            }
            size--;
            int at = (first + size) % MOST_ACTS;
            if (kinds[at] == GROWN) {
                wire.shorten(amounts[at]);
            } else if (kinds[at] == FLIPPED) {
                wire.turnOver(amounts[at]);
            } else {
                bringBack(wire, at);
            }
        }

        private void bringBack(Wire wire, int at) {
            for (int k = 0; k < amounts[at] && k < MOST_TICKS; k++) {
                long word = gone[WORDS * at + k / 64];
                wire.extend((int) (word >>> k % 64 & 1L), 1);
            }
        }

        private int note(int kind, int amount) {
            if (size == MOST_ACTS) {
                first = (first + 1) % MOST_ACTS;
                size--;
            }
            int at = (first + size) % MOST_ACTS;
            kinds[at] = kind;
            amounts[at] = amount;
            size++;
            return at;
        }
    }

    /** Wires that were kept. */
    private static final class Slots {
        private final Wire[] wires = {new Wire(), new Wire()};
        private final boolean[] used = new boolean[SLOTS];

        boolean has(int slot) {
            return slot >= 0 && slot < SLOTS;
        }

        boolean isUsed(int slot) {
            return has(slot) && used[slot];
        }

        void clear() {
            for (int slot = 0; slot < SLOTS; slot++) {
                used[slot] = false;
            }
        }

        void store(int slot, Wire wire) {
            if (has(slot)) {
                wires[slot].copy(wire);
                used[slot] = true;
            }
        }

        void restore(int slot, Wire wire) {
            if (isUsed(slot)) {
                wire.copy(wires[slot]);
            }
        }
    }
}
