import java.util.Random;
import java.util.function.IntSupplier;

/** A run of 512 calls, drawn with a fixed seed, on MirrorKeep and on the model: all answers must be the same. */
final class DrawnRun {
    private static final int CALLS = 512;
    private static final int ACTS = 430;
    private static final String[] NAMES = {"a", "b", "a-", "a.", "aa", "\u00ff", "\u0080x", "B"};
    private static final String[] ODD_NAMES = {"", ".", "..", "...", "n\0", "n".repeat(24), "n".repeat(25)};
    private static final int[] ODD_NUMBERS = {-1, Integer.MIN_VALUE, Integer.MAX_VALUE, 201, 4096, 1500, 100, 60, 5};

    private final Random random;
    private final MirrorKeep keep = new MirrorKeep();
    private final Model model = new Model();
    private final StringBuilder told = new StringBuilder();
    private final boolean big;
    private int calls = 0;
    private int clock = 0;
    private boolean right = true;

    DrawnRun(long seed) {
        random = new Random(seed);
        big = seed % 4 == 0;
    }

    /** Nothing if all answers are the same; or else the calls up to the first that is not. */
    String faults() {
        while (calls < ACTS && right) {
            act();
        }
        lookAtTrees();
        return right ? "" : told.toString();
    }

    private void both(String call, IntSupplier one, IntSupplier other) {
        if (calls >= CALLS || !right) {
            return;
        }
        calls++;
        String got = answer(one);
        String want = answer(other);
        told.append("\n  ").append(call).append(" = ").append(got);
        if (!got.equals(want)) {
            told.append(", due is ").append(want);
            right = false;
        }
    }

    private static String answer(IntSupplier call) {
        try {
            return Integer.toString(call.getAsInt());
        } catch (RuntimeException e) {
            return e.getClass().getSimpleName();
        }
    }

    private void act() {
        int draw = random.nextInt(100);
        if (draw < 22) {
            make();
        } else if (draw < 32) {
            tape(path());
            both("choose", keep::choose, model::choose);
        } else if (draw < 44) {
            write();
        } else if (draw < 54) {
            alter();
        } else if (draw < 72) {
            work();
        } else if (draw < 80) {
            lookBack();
        } else {
            look();
        }
    }

    private int number(int bound) {
        return random.nextInt(25) == 0 ? ODD_NUMBERS[random.nextInt(ODD_NUMBERS.length)] : random.nextInt(bound);
    }

    private String path() {
        StringBuilder path = new StringBuilder();
        int names = random.nextInt(20) == 0 ? 7 : 1 + random.nextInt(random.nextInt(5) == 0 ? 6 : 3);
        for (int i = 0; i < names; i++) {
            String[] drawn = random.nextInt(60) == 0 ? ODD_NAMES : NAMES;
            path.append(i == 0 ? "" : "/").append(drawn[random.nextInt(drawn.length)]);
        }
        return path.toString();
    }

    private void tape(String bytes) {
        for (int from = 0; from < bytes.length(); from += 20) {
            int[] w = new int[5];
            int n = Math.min(20, bytes.length() - from);
            for (int i = 0; i < n; i++) {
                w[i / 4] |= bytes.charAt(from + i) << (24 - 8 * (i % 4));
            }
            both("feed", () -> feedKeep(w), () -> feedModel(w));
            both("end " + n, () -> keep.end(n), () -> model.end(n));
        }
    }

    private int feedKeep(int[] w) {
        keep.feed(w[0], w[1], w[2], w[3], w[4]);
        return 0;
    }

    private int feedModel(int[] w) {
        model.feed(w);
        return 0;
    }

    private void make() {
        String path = path();
        tape(path);
        int kind = random.nextInt(30) == 0 ? number(6) : random.nextInt(2) == 0 ? 2 : 1 + random.nextInt(3);
        int mode = number(3);
        int time = number(3);
        both("make " + path + " " + kind + " " + mode + " " + time, () -> keep.make(kind, mode, time),
            () -> model.make(kind, mode, time));
    }

    private void write() {
        if (big) {
            tapeZeros();
        } else {
            tapeRandomBytes(random.nextInt(12));
        }
        int at = big ? 380 * random.nextInt(5) : number(8);
        both("write " + at, () -> keep.write(at), () -> model.write(at));
    }

    /** Long contents come of few calls only if nothing is fed. */
    private void tapeZeros() {
        for (int i = 0; i < 20; i++) {
            int n = random.nextInt(30) == 0 ? number(22) : 20;
            both("end " + n, () -> keep.end(n), () -> model.end(n));
        }
    }

    private void tapeRandomBytes(int n) {
        StringBuilder bytes = new StringBuilder();
        for (int i = 0; i < n; i++) {
            bytes.append((char) random.nextInt(256));
        }
        tape(bytes.toString());
    }

    private void alter() {
        int n = number(10);
        int time = number(3);
        switch (random.nextInt(4)) {
            case 0:
                both("cut " + n, () -> {
                    keep.cut(n);
                    return 0;
                }, () -> model.cut(n));
                break;
            case 1:
                both("remove", keep::remove, model::remove);
                break;
            default:
                both("set " + n + " " + time, () -> {
                    keep.set(n, time);
                    return 0;
                }, () -> model.set(n, time));
        }
    }

    private void work() {
        int n = random.nextInt(3) == 0 ? 200 : number(12);
        int time = random.nextInt(6) == 0 ? number(30) : clock + random.nextInt(3);
        switch (random.nextInt(8)) {
            case 0:
            case 1:
                both("begin " + time, () -> keep.begin(time), () -> model.begin(time));
                clock = Math.max(clock, Math.min(time, 100000));
                break;
            case 2:
                both("crash", () -> {
                    keep.crash();
                    return 0;
                }, model::crash);
                break;
            case 3:
            case 4:
                both("regress " + n, () -> keep.regress(n), () -> model.regress(n));
                break;
            default:
                both("step " + n, () -> keep.step(n), () -> model.step(n));
        }
    }

    private void lookBack() {
        int time = random.nextInt(3) == 0 ? number(clock + 2) : Math.max(0, clock - random.nextInt(5));
        if (random.nextInt(8) == 0) {
            both("prune " + time, () -> keep.prune(time), () -> model.prune(time));
        } else {
            both("restore " + time, () -> keep.restore(time), () -> model.restore(time));
        }
    }

    /** What calls are left go to the first entries of all trees. */
    private void lookAtTrees() {
        for (int i = 0; i < CALLS; i++) {
            int tree = i % 3;
            int entry = i / 15;
            int what = i / 3 % 5;
            both("entry " + tree + " " + entry + " " + what, () -> keep.entry(tree, entry, what),
                () -> model.entry(tree, entry, what));
        }
    }

    private void look() {
        int tree = random.nextInt(30) == 0 ? number(4) : random.nextInt(3);
        int entries = Math.max(1, model.about(3 + Math.floorMod(tree, 3)));
        int i = number(entries + 1);
        int what = number(10);
        int k = number(12);
        boolean path = random.nextBoolean();
        switch (random.nextInt(6)) {
            case 0:
                both("differ", keep::differ, model::differ);
                break;
            case 1:
                both("about " + what, () -> keep.about(what), () -> model.about(what));
                break;
            case 2:
                both("session " + i + " " + what / 4, () -> keep.session(i, what / 4),
                    () -> model.session(i, what / 4));
                break;
            case 3:
                both("at " + tree + " " + i + " " + path + " " + k, () -> keep.at(tree, i, path, k),
                    () -> model.at(tree, i, path, k));
                break;
            default:
                both("entry " + tree + " " + i + " " + what / 2, () -> keep.entry(tree, i, what / 2),
                    () -> model.entry(tree, i, what / 2));
        }
    }
}
