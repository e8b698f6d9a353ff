import java.util.Random;

/** Long runs of calls, each answer compared with the one of the plain model. */
public final class ModelTest {
    /** An object is good for 512 calls; no step makes more than a hundred and twenty. */
    private static final int LAST_STEP_FROM = 512 - 120;

    private static final int[] WILD = {Integer.MIN_VALUE, Integer.MAX_VALUE, -1, -2, 0, 1, 2, 3, 4,
        5, 6, 7, 9, 10, 11, 13, 14, 15, 16, 17, 98, 99, 100, 255, 256, 359, 360, 361, 999999,
        15010, 168221, 168222, 175010, -15010, 14010, 15000, 15310, 15030, 15012, 19010};
    private static final String[] TAKE_SIGNS = {"S", "0", "1", "r", "r", "0", "9", "5", "6", "s"};

    private final WireGuess x = new WireGuess();
    private final PlainModel y = new PlainModel();
    private final Random random;
    private final int runNumber;
    private int home;
    private int calls = 0;
    private boolean wild;

    private ModelTest(int runNumber) {
        this.runNumber = runNumber;
        random = new Random(runNumber);
        newHome();
    }

    public static void main(String[] args) {
        int runs = args.length > 0 ? Integer.parseInt(args[0]) : 250;
        for (int run = 0; run < runs && Due.wrongSoFar() < 20; run++) {
            new ModelTest(run).go();
        }
        Due.close("ModelTest");
    }

    private void go() {
        for (int step = 0; step < 512 && calls < LAST_STEP_FROM && Due.wrongSoFar() < 20; step++) {
            wild = random.nextInt(12) == 0;
            if (random.nextInt(60) == 0) {
                newHome();
            }
            step(random.nextInt(100));
        }
    }

    private void newHome() {
        int b = 1 + random.nextInt(random.nextBoolean() ? 4 : 16);
        home = b * 10000 + (5 + random.nextInt(4)) * 1000 + random.nextInt(3) * 100
            + (1 + random.nextInt(2)) * 10 + random.nextInt(2);
    }

    private int pick(int low, int high) {
        return wild ? WILD[random.nextInt(WILD.length)] : low + random.nextInt(high - low + 1);
    }

    private int code() {
        if (wild) {
            return WILD[random.nextInt(WILD.length)];
        }
        int choice = random.nextInt(10);
        if (choice < 7) {
            return home;
        }
        int best = choice < 9 ? y.about(3) : PlainModel.NONE;
        int any = PlainModel.CODES.get(random.nextInt(768));
        return best == PlainModel.NONE ? any : best;
    }

    private void same(String call, long got, long want) {
        calls++;
        Due.holds("run " + runNumber + ": an object is good for 512 calls", calls <= 512);
        Due.is("run " + runNumber + ": " + call, got, want);
    }

    private void step(int kind) {
        if (kind < 8) {
            writeSome();
        } else if (kind < 40) {
            act(kind - 8);
        } else if (kind < 70) {
            askWire(kind - 40);
        } else if (kind < 92) {
            askGuess(kind - 70);
        } else {
            slots(kind - 92);
        }
    }

    private void writeSome() {
        if (random.nextInt(3) == 0) {
            same("wipe()", x.wipe(), y.wipe());
            writeTake();
        } else if (wild) {
            writeOne(pick(0, 255));
        } else {
            int many = random.nextInt(8) == 0 ? 99 : 3;
            for (int k = 0; k < many; k++) {
                writeOne(TAKE_SIGNS[random.nextInt(TAKE_SIGNS.length)].charAt(0));
            }
        }
        same("fault()", x.fault(), y.fault());
        if (random.nextInt(4) == 0) {
            same("take()", x.take(), y.take());
        }
    }

    private void writeOne(int sign) {
        same("write(" + sign + ")", x.write(sign), y.write(sign));
    }

    /** A take by the home guess's bit, spoilt now and then; long runs lead beyond 360 ticks. */
    private void writeTake() {
        String take = "S" + random.nextInt(2);
        int bit = random.nextInt(4) == 0 ? 99 : Math.max(1, home / 10000);
        int runs = random.nextInt(33);
        for (int k = 0; k < runs; k++) {
            int n = Math.min(99, bit * (1 + random.nextInt(4)));
            take += String.format("r%02d", random.nextInt(30) == 0 ? random.nextInt(100) : n);
            if (random.nextInt(90) == 0) {
                take += "r";
            }
        }
        for (int k = 0; k < take.length(); k++) {
            writeOne(take.charAt(k));
            if (random.nextInt(10) == 0) {
                same("fault()", x.fault(), y.fault());
            }
        }
    }

    private void act(int kind) {
        int ticks = y.about(0);
        if (kind < 14) {
            int code = wild ? code() : home;
            int letter = wild && random.nextBoolean() ? pick(0, 255) : random.nextInt(256);
            same("send(" + code + ", " + letter + ")", x.send(code, letter), y.send(code, letter));
        } else if (kind < 19) {
            int level = pick(0, 1);
            int n = wild ? pick(1, 99) : 1 + random.nextInt(random.nextInt(4) == 0 ? 99 : 20);
            same("hear(" + level + ", " + n + ")", x.hear(level, n), y.hear(level, n));
        } else if (kind < 24) {
            int tick = pick(0, ticks + 1);
            same("flip(" + tick + ")", x.flip(tick), y.flip(tick));
        } else if (kind < 28) {
            int n = random.nextInt(3) == 0 ? ticks : pick(0, ticks / 2 + 1);
            same("cut(" + n + ")", x.cut(n), y.cut(n));
        } else {
            int times = random.nextInt(8) == 0 ? 16 : 1;
            for (int k = 0; k < times; k++) {
                same("undo()", x.undo(), y.undo());
                someLevels();
            }
        }
    }

    private void someLevels() {
        int ticks = y.about(0);
        same("about(0)", x.about(0), ticks);
        for (int k = 0; k < 4; k++) {
            int tick = random.nextInt(ticks + 1);
            same("level(" + tick + ")", x.level(tick), y.level(tick));
        }
    }

    private void askWire(int kind) {
        if (kind < 16) {
            int what = pick(0, 10);
            same("about(" + what + ")", x.about(what), y.about(what));
        } else if (kind < 20) {
            int tick = pick(0, 361);
            same("level(" + tick + ")", x.level(tick), y.level(tick));
        } else if (kind < 25) {
            int i = pick(0, y.about(1) + 1);
            same("run(" + i + ")", x.run(i), y.run(i));
        } else {
            int b = pick(1, 16);
            same("off(" + b + ")", x.off(b), y.off(b));
        }
    }

    private void askGuess(int kind) {
        int code = code();
        if (kind < 5) {
            int what = pick(0, 4);
            same("guess(" + code + ", " + what + ")", x.guess(code, what), y.guess(code, what));
        } else if (kind < 8) {
            int i = pick(0, 5);
            boolean start = random.nextBoolean();
            same("letter(" + code + ", " + i + ", " + start + ")",
                x.letter(code, i, start), y.letter(code, i, start));
        } else if (kind < 11) {
            askJudge();
        } else if (kind < 15) {
            askKnown();
        } else if (kind < 18) {
            int n = pick(0, 6);
            int tenths = pick(0, 10);
            same("chance(" + code + ", " + n + ", " + tenths + ", true)",
                x.chance(code, n, tenths, true), y.chance(code, n, tenths, true));
            same("chance(" + code + ", " + n + ", " + tenths + ", false)",
                x.chance(code, n, tenths, false), y.chance(code, n, tenths, false));
        } else {
            askDrawn(code);
        }
    }

    private void askDrawn(int code) {
        if (random.nextInt(4) == 0) {
            long v = random.nextLong();
            same("seed(" + v + ")", x.seed(v), y.seed(v));
        }
        int m = pick(1, 10);
        same("drawn(" + code + ", " + m + ")", x.drawn(code, m), y.drawn(code, m));
    }

    private void askJudge() {
        int n = wild ? pick(1, 3) : 1 + random.nextInt(3);
        long row = 0;
        for (int k = 0; k < n && k < 4; k++) {
            row = row * 10000 + doing();
        }
        row = random.nextInt(30) == 0 ? random.nextLong() : row;
        same("judge(" + n + ", " + row + ")", x.judge(n, row), y.judge(n, row));
    }

    private int doing() {
        int best = y.about(3);
        switch (random.nextInt(8)) {
            case 0: return 1000 + 100 * random.nextInt(2) + random.nextInt(100);
            case 1: return 2000 + random.nextInt(y.about(0) + 2);
            case 2: return 3000 + y.about(1) + random.nextInt(2);
            case 3: return 4000 + random.nextInt(y.about(0) + 2);
            case 4:
            case 5: return 5000 + Math.max(0, best / 10000) * 10 + random.nextInt(2);
            case 6: return 6000 + Math.max(0, y.letter(best, 0, false));
            default: return random.nextInt(10000);
        }
    }

    private void askKnown() {
        int choice = random.nextInt(6);
        if (choice < 3) {
            int i = wild ? pick(0, 9) : random.nextInt(3);
            int read = y.letter(code(), i, false);
            int v = wild ? pick(0, 255) : read >= 0 ? read : random.nextInt(256);
            same("know(" + i + ", " + v + ")", x.know(i, v), y.know(i, v));
        } else if (choice < 5) {
            int place = pick(0, y.about(9));
            same("share(" + place + ", true)", x.share(place, true), y.share(place, true));
            same("share(" + place + ", false)", x.share(place, false), y.share(place, false));
            same("about(6)", x.about(6), y.about(6));
            same("about(7)", x.about(7), y.about(7));
        } else if (random.nextInt(3) == 0) {
            same("forget()", x.forget(), y.forget());
        }
    }

    private void slots(int kind) {
        int slot = wild ? pick(0, 1) : random.nextInt(2);
        if (kind < 4) {
            same("keep(" + slot + ")", x.keep(slot), y.keep(slot));
        } else if (kind < 7) {
            same("again(" + slot + ")", x.again(slot), y.again(slot));
            someLevels();
        } else {
            while (y.about(0) > 0 && random.nextInt(3) > 0) {
                int n = Math.min(y.about(0), 120);
                same("cut(" + n + ")", x.cut(n), y.cut(n));
            }
        }
    }
}
