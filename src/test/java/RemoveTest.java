/** Promise 9: remove. */
public final class RemoveTest extends KeepCases {
    private static final String GOES = "The CHOSEN entry goes from the source, and all whose paths begin with its path "
        + "and /: how many went (nothing is chosen then).";
    private static final String STATES =
        "IllegalStateException: a session is UNDER WAY, or nothing is chosen.";

    public static void main(String[] args) {
        run(RemoveTest.class);
    }

    private void someEntries() {
        directory("c");
        file("c/d");
        directory("d");
        directory("d/e");
        fileOf("d/e/f", "abc");
        file("d/g");
        file("d-");
        file("dd");
    }

    private void went(String path, int n, String left) {
        someEntries();
        choose(path);
        same("remove of " + path, x.remove(), n);
        same("the source", paths(SOURCE), left);
        same("entries", x.about(3), 8 - n);
    }

    @Case(GOES)
    void fileGoesAlone() {
        went("d/g", 1, "c c/d d d/e d/e/f d- dd");
    }

    @Case(GOES)
    void directoryGoesWithWhatIsBelow() {
        went("d/e", 2, "c c/d d d/g d- dd");
    }

    @Case(GOES)
    void allLevelsBelowGo() {
        went("d", 4, "c c/d d- dd");
    }

    @Case(GOES)
    void lastInOrderGoesAlone() {
        went("dd", 1, "c c/d d d/e d/e/f d/g d-");
    }

    @Case(GOES)
    void pathsThatBeginAlikeWithoutTheSlashStay() {
        directory("d");
        for (String path : new String[] {"d-", "d.", "d0", "dd", "d\u0001", "d\u00ff"}) {
            file(path);
        }
        choose("d");
        same("remove of d", x.remove(), 1);
        same("the source", paths(SOURCE), "d\u0001 d- d. d0 dd d\u00ff");
    }

    @Case(GOES)
    void pathsThatEndAlikeStay() {
        went("c", 2, "d d/e d/e/f d/g d- dd");
    }

    @Case(GOES)
    void emptyDirectoryGoesAlone() {
        directory("d");
        file("e");
        choose("d");
        same("remove", x.remove(), 1);
        same("the source", paths(SOURCE), "e");
    }

    @Case(GOES)
    void theOnlyEntryGoes() {
        fileOf("f", "abc");
        same("remove", x.remove(), 1);
        same("entries", x.about(3), 0);
        same("bytes of content", x.about(6), 0);
        same("the first entry", x.entry(SOURCE, 0, 0), NONE);
    }

    @Case(GOES)
    void sixtyGo() {
        sixty("d");
        choose("d");
        same("remove", x.remove(), 60);
        same("entries", x.about(3), 0);
    }

    @Case(GOES)
    void theirContentGoes() {
        someEntries();
        removeAt("d");
        same("bytes of content", x.about(6), 0);
    }

    @Case(GOES)
    void nothingIsChosenThen() {
        file("a");
        file("b");
        choose("a");
        x.remove();
        nothingIsChosen();
        thrown(STATE, "remove once more", () -> x.remove());
        same("the source", paths(SOURCE), "b");
    }

    @Case(GOES)
    void mirrorAndResultAreLeftAlone() {
        directory("d");
        file("d/f");
        keep(1);
        x.restore(1);
        removeAt("d");
        same("the mirror", paths(MIRROR), "d d/f");
        same("the result", paths(RESULT), "d d/f");
    }

    @Case(GOES)
    void tapeIsLeftAlone() {
        file("f");
        tape("t");
        x.remove();
        same("bytes on the tape", x.about(8), 1);
    }

    @Case(STATES)
    void underWayIsRefused() {
        file("f");
        x.begin(1);
        tape("t");
        refused(STATE, "remove, under way", () -> x.remove());
    }

    @Case(STATES)
    void underWayTheChoiceStays() {
        file("a");
        file("b");
        choose("a");
        x.begin(1);
        thrown(STATE, "remove, under way", () -> x.remove());
        x.step(200);
        isChosen("a");
    }

    @Case(STATES)
    void nothingChosenIsRefused() {
        file("f");
        choose("g");
        tape("t");
        refused(STATE, "remove with nothing chosen", () -> x.remove());
    }

    @Case(STATES)
    void nothingChosenOfAnEmptySourceIsRefused() {
        refused(STATE, "remove with nothing chosen", () -> x.remove());
    }

    @Case(STATES)
    void brokenIsNotUnderWay() {
        directory("d");
        file("d/f");
        choose("d");
        x.begin(1);
        x.step(3);
        x.crash();
        same("remove while broken", x.remove(), 2);
        same("the source", paths(SOURCE), "");
        same("the mirror", paths(MIRROR), "d");
    }
}
