/** Promise 18: at. */
public final class AtTest extends KeepCases {
    private static final String BYTE =
        "Byte k (0 .. 255) of the content, or with path of the path, of a tree's i-th entry.";
    private static final String NOTHING = "NONE if there is none such.";

    public static void main(String[] args) {
        run(AtTest.class);
    }

    private void bytes(int tree, int i, boolean path, int... wants) {
        for (int k = 0; k < wants.length; k++) {
            same("at(" + tree + ", " + i + ", " + path + ", " + k + ")", x.at(tree, i, path, k), wants[k]);
        }
    }

    private void isNone(int tree, int i, int k) {
        same("content: at(" + tree + ", " + i + ", " + k + ")", x.at(tree, i, false, k), NONE);
        same("path: at(" + tree + ", " + i + ", " + k + ")", x.at(tree, i, true, k), NONE);
    }

    private void isNoByte(int k) {
        threeTrees();
        for (int i = 0; i < 3; i++) {
            isNone(SOURCE, i, k);
        }
        isNone(MIRROR, 0, k);
        isNone(RESULT, 0, k);
    }

    private void isNoTree(int tree) {
        threeTrees();
        isNone(tree, 0, 0);
    }

    private void isNoEntry(int i) {
        threeTrees();
        isNone(SOURCE, i, 0);
        isNone(MIRROR, i, 0);
        isNone(RESULT, i, 0);
    }

    @Case(BYTE)
    void contentOfTheSource() {
        threeTrees();
        bytes(SOURCE, 0, false, 'd', 'o', 'c', 's');
        bytes(SOURCE, 2, false, 'h', 'e', 'l', 'l', 'o', 0, 'w', 128, 'r', 255, '!');
    }

    @Case(BYTE)
    void pathOfTheSource() {
        threeTrees();
        bytes(SOURCE, 0, true, 'a');
        bytes(SOURCE, 2, true, 'd', 'o', 'c', 's', '/', 't', 'e', 'x', 't');
    }

    @Case(BYTE)
    void contentOfTheMirror() {
        threeTrees();
        bytes(MIRROR, 1, false, 'h', 'e', 'l', 'l', 'o', 0, 'w', 128, 'r', 255, '!');
    }

    @Case(BYTE)
    void pathOfTheMirror() {
        threeTrees();
        bytes(MIRROR, 0, true, 'd', 'o', 'c', 's');
    }

    @Case(BYTE)
    void contentAndPathOfTheResult() {
        threeTrees();
        x.restore(2);
        bytes(RESULT, 0, true, 'd', 'o', 'c', 's');
        bytes(RESULT, 1, false, 'h', 'e', 'l', 'l', 'o', 0, 'w', 128, 'r', 255, '!');
    }

    @Case(BYTE)
    void bytesAreFrom0To255() {
        fileOf("\u0080\u00ff\u007f\u0001", "\u0080\u00ff\u007f\0");
        bytes(SOURCE, 0, true, 128, 255, 127, 1);
        bytes(SOURCE, 0, false, 128, 255, 127, 0);
    }

    @Case(BYTE)
    void lastByteOfTheLongestContent() {
        file("f");
        fill(1500);
        write(1499, "!");
        same("byte 1498", x.at(SOURCE, 0, false, 1498), 0);
        same("byte 1499", x.at(SOURCE, 0, false, 1499), '!');
        same("byte 1500", x.at(SOURCE, 0, false, 1500), NONE);
    }

    @Case(BYTE)
    void bytes255And256OfAContent() {
        file("f");
        fill(255);
        write(255, "xy");
        same("byte 255", x.at(SOURCE, 0, false, 255), 'x');
        same("byte 256", x.at(SOURCE, 0, false, 256), 'y');
        same("byte 257", x.at(SOURCE, 0, false, 257), NONE);
    }

    @Case(BYTE)
    void lastByteOfTheLongestPath() {
        String path = "";
        for (int i = 0; i < 6; i++) {
            path = path + (i == 0 ? "" : "/") + "n".repeat(23) + i;
            directory(path);
        }
        same("byte 148", x.at(SOURCE, 5, true, 148), '5');
        same("byte 149", x.at(SOURCE, 5, true, 149), NONE);
    }

    @Case(NOTHING)
    void byteOfMinus1IsNone() {
        isNoByte(-1);
    }

    @Case(NOTHING)
    void lowestByteIsNone() {
        isNoByte(LOWEST);
    }

    @Case(NOTHING)
    void highestByteIsNone() {
        isNoByte(HIGHEST);
    }

    @Case(NOTHING)
    void byteBehindTheLastIsNone() {
        threeTrees();
        same("behind a link's content", x.at(SOURCE, 0, false, 4), NONE);
        same("behind its path", x.at(SOURCE, 0, true, 1), NONE);
        same("behind a file's content", x.at(MIRROR, 1, false, 11), NONE);
        same("behind its path", x.at(MIRROR, 1, true, 9), NONE);
        same("behind a directory's path", x.at(RESULT, 0, true, 4), NONE);
    }

    @Case(NOTHING)
    void directoryHasNoByteOfContent() {
        threeTrees();
        same("of the source", x.at(SOURCE, 1, false, 0), NONE);
        same("of the mirror", x.at(MIRROR, 0, false, 0), NONE);
        same("of the result", x.at(RESULT, 0, false, 0), NONE);
    }

    @Case(NOTHING)
    void emptyContentHasNoByte() {
        file("f");
        same("byte 0", x.at(SOURCE, 0, false, 0), NONE);
    }

    @Case(NOTHING)
    void byteThatWasCutOffIsNone() {
        fileOf("f", "abc");
        x.cut(2);
        same("byte 1", x.at(SOURCE, 0, false, 1), 'b');
        same("byte 2", x.at(SOURCE, 0, false, 2), NONE);
    }

    @Case(NOTHING)
    void entryOfMinus1IsNone() {
        isNoEntry(-1);
    }

    @Case(NOTHING)
    void lowestEntryIsNone() {
        isNoEntry(LOWEST);
    }

    @Case(NOTHING)
    void highestEntryIsNone() {
        isNoEntry(HIGHEST);
    }

    @Case(NOTHING)
    void entryBehindTheLastIsNone() {
        threeTrees();
        isNone(SOURCE, 3, 0);
        isNone(MIRROR, 2, 0);
        isNone(RESULT, 1, 0);
    }

    @Case(NOTHING)
    void emptyTreesHaveNoByte() {
        isNone(SOURCE, 0, 0);
        isNone(MIRROR, 0, 0);
        isNone(RESULT, 0, 0);
    }

    @Case(NOTHING)
    void treeOfMinus1IsNone() {
        isNoTree(-1);
    }

    @Case(NOTHING)
    void treeOf3IsNone() {
        isNoTree(3);
    }

    @Case(NOTHING)
    void lowestTreeIsNone() {
        isNoTree(LOWEST);
    }

    @Case(NOTHING)
    void highestTreeIsNone() {
        isNoTree(HIGHEST);
    }
}
