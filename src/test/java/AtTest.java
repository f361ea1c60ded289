/** Promise 18: byte k of the content, or of the path, of a tree's i-th entry. */
public final class AtTest {
    public static void main(String[] args) {
        MirrorKeep x = EntryTest.threeTrees();
        for (int tree = 0; tree <= 1; tree++) {
            int i = tree == 0 ? 2 : 1;
            bytes(x, tree, i, false, 'h', 'e', 'l', 'l', 'o', 0, 'w', 128, 'r', 255, '!');
            bytes(x, tree, i, true, 'd', 'o', 'c', 's', '/', 't', 'e', 'x', 't');
        }
        bytes(x, 0, 0, true, 'a');
        bytes(x, 0, 0, false, 'd', 'o', 'c', 's');
        bytes(x, 2, 0, true, 'd', 'o', 'c', 's');
        bytes(x, 2, 0, false);
        none(x);
        farBytes();
        Checks.finish();
    }

    private static void bytes(MirrorKeep x, int tree, int i, boolean path, int... wants) {
        String call = "at(" + tree + ", " + i + ", " + path + ", ";
        for (int k = 0; k < wants.length; k++) {
            Checks.same(call + k + ")", x.at(tree, i, path, k), wants[k]);
        }
        int[] outside = {-1, wants.length, wants.length + 1, Integer.MIN_VALUE, Integer.MAX_VALUE};
        for (int k : outside) {
            Checks.same(call + k + ")", x.at(tree, i, path, k), MirrorKeep.NONE);
        }
    }

    private static void none(MirrorKeep x) {
        int[][] wrong = {{-1, 0}, {3, 0}, {Integer.MAX_VALUE, 0}, {0, -1}, {0, 3}, {1, 2}, {2, 1},
            {0, Integer.MIN_VALUE}, {1, Integer.MAX_VALUE}};
        for (int[] w : wrong) {
            Checks.same("path of " + java.util.Arrays.toString(w), x.at(w[0], w[1], true, 0), MirrorKeep.NONE);
            Checks.same("content of " + java.util.Arrays.toString(w), x.at(w[0], w[1], false, 0), MirrorKeep.NONE);
        }
    }

    private static void farBytes() {
        MirrorKeep x = new MirrorKeep();
        Checks.file(x, "f");
        Checks.fill(x, 1500);
        Checks.write(x, 1499, "!");
        Checks.same("byte 256", x.at(0, 0, false, 256), 'x');
        Checks.same("byte 1499", x.at(0, 0, false, 1499), '!');
        Checks.same("byte 1500", x.at(0, 0, false, 1500), MirrorKeep.NONE);
    }
}
