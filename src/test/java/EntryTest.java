/** Promise 17: what is told of a tree's i-th entry, in ORDER. */
public final class EntryTest {
    public static void main(String[] args) {
        MirrorKeep x = threeTrees();
        told(x, 0, 0, 3, 511, 1, 4, 1);
        told(x, 0, 1, 2, 493, 5, 0, 4);
        told(x, 0, 2, 1, 420, 7, 11, 9);
        told(x, 1, 0, 2, 493, 5, 0, 4);
        told(x, 1, 1, 1, 420, 7, 11, 9);
        told(x, 2, 0, 2, 493, 5, 0, 4);
        none(x);
        order();
        Checks.finish();
    }

    /** A source of three entries, a mirror of two and a result of one. */
    static MirrorKeep threeTrees() {
        MirrorKeep x = new MirrorKeep();
        Checks.make(x, "docs", 2, 493, 5);
        Checks.keep(x, 1);
        Checks.make(x, "docs/text", 1, 420, 7);
        Checks.write(x, 0, "hello\0w\u0080r\u00ff!");
        Checks.keep(x, 2);
        Checks.make(x, "a", 3, 511, 1);
        Checks.write(x, 0, "docs");
        x.restore(1);
        return x;
    }

    private static void told(MirrorKeep x, int tree, int i, int... wants) {
        for (int what = 0; what < wants.length; what++) {
            Checks.same("entry(" + tree + ", " + i + ", " + what + ")", x.entry(tree, i, what), wants[what]);
        }
    }

    private static void none(MirrorKeep x) {
        int[][] wrong = {{-1, 0, 0}, {3, 0, 0}, {Integer.MIN_VALUE, 0, 0}, {Integer.MAX_VALUE, 0, 0}, {0, -1, 0},
            {0, 3, 0}, {1, 2, 4}, {2, 1, 3}, {0, Integer.MIN_VALUE, 0}, {1, Integer.MAX_VALUE, 0}, {0, 60, 0},
            {1, 120, 0}, {0, 0, -1}, {0, 0, 5}, {1, 0, Integer.MAX_VALUE}, {2, 0, Integer.MIN_VALUE}};
        for (int[] w : wrong) {
            Checks.same("entry" + java.util.Arrays.toString(w), x.entry(w[0], w[1], w[2]), MirrorKeep.NONE);
        }
        Checks.choose(x, "docs");
        x.remove();
        Checks.same("what went is not there", x.entry(0, 1, 0), MirrorKeep.NONE);
    }

    private static void order() {
        MirrorKeep x = new MirrorKeep();
        String[] directories = {"a", "a/b", "a-", "\u00e9", "\u0001"};
        for (String path : directories) {
            Checks.directory(x, path);
        }
        String[] files = {"b", "aa", "a/b/c", "a/b-", "a/ba", "a-/a", "a.", "A", "\u007f", "\u0080", "\u00ff",
            "\u00e9/\u00ff", "\u00e9/z", "\u0001/!", "a/B", "a!"};
        for (String path : files) {
            Checks.file(x, path);
        }
        String due = "\u0001 \u0001/! A a a/B a/b a/b/c a/b- a/ba a! a- a-/a a. aa b \u007f \u0080 "
            + "\u00e9 \u00e9/z \u00e9/\u00ff \u00ff";
        Checks.same("the source in ORDER", Checks.paths(x, 0), due);
        Checks.keep(x, 1);
        Checks.same("the mirror in ORDER", Checks.paths(x, 1), due);
        x.restore(1);
        Checks.same("the result in ORDER", Checks.paths(x, 2), due);
    }
}
