import java.nio.charset.StandardCharsets;

/**
 * What all tests use: checks that are counted, and short ways to fill a MirrorKeep and to look at it.
 * A whole tree is looked at byte by byte, so keep the trees small: an object has 512 calls.
 */
final class Checks {
    static final int FILE = 1;
    static final int DIRECTORY = 2;
    static final int LINK = 3;
    static final int SOURCE = 0;
    static final int MIRROR = 1;
    static final int RESULT = 2;

    private static int made = 0;
    private static int wrong = 0;

    private Checks() {
    }

    static void same(String what, long got, long want) {
        same(what, Long.toString(got), Long.toString(want));
    }

    static void same(String what, String got, String want) {
        made++;
        if (!got.equals(want)) {
            wrong++;
            System.out.println(what + " answered " + got + ", due is " + want);
        }
    }

    static void throwsState(String what, Runnable call) {
        same(what, outcome(call), "IllegalStateException");
    }

    static void throwsArgument(String what, Runnable call) {
        same(what, outcome(call), "IllegalArgumentException");
    }

    static String outcome(Runnable call) {
        try {
            call.run();
            return "nothing thrown";
        } catch (RuntimeException e) {
            return e.getClass().getSimpleName();
        }
    }

    /** Ends the test: exit code 1 if a check was wrong, or none was made. */
    static void finish() {
        System.out.println(made + " checks, " + wrong + " wrong");
        if (wrong != 0 || made == 0) {
            System.exit(1);
        }
    }

    /** Puts the text's bytes behind those on the tape. */
    static void tape(MirrorKeep x, String text) {
        byte[] bytes = text.getBytes(StandardCharsets.ISO_8859_1);
        for (int from = 0; from < bytes.length; from += 20) {
            int[] words = new int[5];
            int n = Math.min(20, bytes.length - from);
            for (int i = 0; i < n; i++) {
                words[i / 4] |= (bytes[from + i] & 255) << (24 - 8 * (i % 4));
            }
            x.feed(words[0], words[1], words[2], words[3], words[4]);
            x.end(n);
        }
    }

    static int make(MirrorKeep x, String path, int kind, int mode, int time) {
        tape(x, path);
        return x.make(kind, mode, time);
    }

    static int file(MirrorKeep x, String path) {
        return make(x, path, FILE, 0, 0);
    }

    static int directory(MirrorKeep x, String path) {
        return make(x, path, DIRECTORY, 0, 0);
    }

    static int link(MirrorKeep x, String path) {
        return make(x, path, LINK, 0, 0);
    }

    static int choose(MirrorKeep x, String path) {
        tape(x, path);
        return x.choose();
    }

    static int write(MirrorKeep x, int at, String bytes) {
        tape(x, bytes);
        return x.write(at);
    }

    /** Makes the chosen entry's content, which is empty, that long. */
    static void fill(MirrorKeep x, int length) {
        for (int at = 0; at < length; at += 400) {
            write(x, at, "x".repeat(Math.min(400, length - at)));
        }
    }

    /** Sixty entries: a directory of that name, which makes them easy to remove, and files in it. */
    static void sixty(MirrorKeep x, String name) {
        directory(x, name);
        files(x, name, 59);
    }

    static void files(MirrorKeep x, String directory, int n) {
        for (int i = 1; i <= n; i++) {
            file(x, directory + "/" + i);
        }
    }

    /** A whole session of a time: how many operations it did. */
    static int keep(MirrorKeep x, int time) {
        int operations = x.begin(time);
        x.step(200);
        if (operations > 200) {
            x.step(200);
        }
        return operations;
    }

    static String path(MirrorKeep x, int tree, int i) {
        return bytes(x, tree, i, true, x.entry(tree, i, 4));
    }

    static String content(MirrorKeep x, int tree, int i) {
        return bytes(x, tree, i, false, x.entry(tree, i, 3));
    }

    private static String bytes(MirrorKeep x, int tree, int i, boolean path, int length) {
        StringBuilder text = new StringBuilder();
        for (int k = 0; k < length; k++) {
            text.append((char) x.at(tree, i, path, k));
        }
        return text.toString();
    }

    /** All that can be told of a tree: path, kind, mode, time and content of each entry. */
    static String tree(MirrorKeep x, int tree) {
        StringBuilder text = new StringBuilder();
        for (int i = 0; x.entry(tree, i, 0) != MirrorKeep.NONE; i++) {
            text.append(i == 0 ? "" : "; ").append(path(x, tree, i));
            for (int what = 0; what < 3; what++) {
                text.append(' ').append(x.entry(tree, i, what));
            }
            text.append(' ').append(content(x, tree, i).isEmpty() ? "-" : content(x, tree, i));
        }
        return text.toString();
    }

    /** The paths of a tree, with a blank between them. */
    static String paths(MirrorKeep x, int tree) {
        StringBuilder text = new StringBuilder();
        for (int i = 0; x.entry(tree, i, 0) != MirrorKeep.NONE; i++) {
            text.append(i == 0 ? "" : " ").append(path(x, tree, i));
        }
        return text.toString();
    }
}
