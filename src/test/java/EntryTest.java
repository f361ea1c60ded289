/** Promise 17: entry. */
public final class EntryTest extends KeepCases {
    private static final String TOLD = "Of a tree (0 the source, 1 the mirror, as it is, 2 the result), of its i-th "
        + "entry in ORDER: KIND (what = 0), MODE (1), TIME (2), how long its content is (3), its path (4).";
    private static final String NOTHING = "NONE if there is none such, or for another what.";

    public static void main(String[] args) {
        run(EntryTest.class);
    }

    private void told(int tree, int i, int... wants) {
        for (int what = 0; what < wants.length; what++) {
            same("entry(" + tree + ", " + i + ", " + what + ")", x.entry(tree, i, what), wants[what]);
        }
    }

    private void isNone(int tree, int i) {
        told(tree, i, NONE, NONE, NONE, NONE, NONE, NONE);
    }

    private void isNoWhat(int what) {
        threeTrees();
        for (int tree = SOURCE; tree <= RESULT; tree++) {
            same("entry(" + tree + ", 0, " + what + ")", x.entry(tree, 0, what), NONE);
        }
    }

    private void isNoTree(int tree) {
        threeTrees();
        isNone(tree, 0);
    }

    @Case(TOLD)
    void entriesOfTheSource() {
        threeTrees();
        told(SOURCE, 0, LINK, 511, 1, 4, 1);
        told(SOURCE, 1, DIRECTORY, 493, 5, 0, 4);
        told(SOURCE, 2, FILE, 420, 7, 11, 9);
    }

    @Case(TOLD)
    void entriesOfTheMirror() {
        threeTrees();
        told(MIRROR, 0, DIRECTORY, 493, 5, 0, 4);
        told(MIRROR, 1, FILE, 420, 7, 11, 9);
    }

    @Case(TOLD)
    void entriesOfTheResult() {
        threeTrees();
        told(RESULT, 0, DIRECTORY, 493, 5, 0, 4);
    }

    @Case(TOLD)
    void mirrorAsItIsUnderWay() {
        threeChanges();
        x.step(5);
        told(MIRROR, 0, FILE, 0, 0, 3, 1);
        isNone(MIRROR, 1);
        x.step(2);
        told(MIRROR, 1, DIRECTORY, 7, 7, 0, 1);
    }

    @Case(TOLD)
    void mirrorAsItIsBroken() {
        brokenBehind(7);
        told(MIRROR, 1, DIRECTORY, 7, 7, 0, 1);
        x.regress(1);
        isNone(MIRROR, 1);
    }

    @Case(TOLD)
    void mirrorAndResultAreInOrderToo() {
        directory("a");
        for (String path : new String[] {"b", "aa", "a-", "a/b", "\u00ff", "\u0001"}) {
            file(path);
        }
        keep(1);
        x.restore(1);
        String due = "\u0001 a a/b a- aa b \u00ff";
        same("the source", paths(SOURCE), due);
        same("the mirror", paths(MIRROR), due);
        same("the result", paths(RESULT), due);
    }

    @Case(TOLD)
    void longestContentAndHighestNumbers() {
        make("f", FILE, 4095, HIGHEST);
        fill(1500);
        told(SOURCE, 0, FILE, 4095, HIGHEST, 1500, 1);
    }

    @Case(TOLD)
    void lastOf60Entries() {
        sixty("d");
        told(SOURCE, 59, FILE, 0, 0, 0, 3);
        isNone(SOURCE, 60);
    }

    @Case(NOTHING)
    void entryOfMinus1IsNone() {
        threeTrees();
        isNone(SOURCE, -1);
        isNone(MIRROR, -1);
        isNone(RESULT, -1);
    }

    @Case(NOTHING)
    void entryBehindTheLastIsNone() {
        threeTrees();
        isNone(SOURCE, 3);
        isNone(MIRROR, 2);
        isNone(RESULT, 1);
    }

    @Case(NOTHING)
    void lowestEntryIsNone() {
        threeTrees();
        isNone(SOURCE, LOWEST);
        isNone(MIRROR, LOWEST);
        isNone(RESULT, LOWEST);
    }

    @Case(NOTHING)
    void highestEntryIsNone() {
        threeTrees();
        isNone(SOURCE, HIGHEST);
        isNone(MIRROR, HIGHEST);
        isNone(RESULT, HIGHEST);
    }

    @Case(NOTHING)
    void entryOfAnEmptyTreeIsNone() {
        isNone(SOURCE, 0);
        isNone(MIRROR, 0);
        isNone(RESULT, 0);
    }

    @Case(NOTHING)
    void entryThatWentIsNone() {
        threeTrees();
        removeAt("docs");
        told(SOURCE, 0, LINK);
        isNone(SOURCE, 1);
    }

    @Case(NOTHING)
    void treeOfMinus1IsNone() {
        isNoTree(-1);
    }

    @Case(NOTHING)
    void treeOf3IsNone() {
        isNoTree(3);
    }

    @Case(NOTHING)
    void lowestTreeIsNone() {
        isNoTree(LOWEST);
    }

    @Case(NOTHING)
    void highestTreeIsNone() {
        isNoTree(HIGHEST);
    }

    @Case(NOTHING)
    void whatOfMinus1IsNone() {
        isNoWhat(-1);
    }

    @Case(NOTHING)
    void whatOf5IsNone() {
        isNoWhat(5);
    }

    @Case(NOTHING)
    void lowestWhatIsNone() {
        isNoWhat(LOWEST);
    }

    @Case(NOTHING)
    void highestWhatIsNone() {
        isNoWhat(HIGHEST);
    }
}
