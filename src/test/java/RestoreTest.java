/** Promise 14: restore. */
public final class RestoreTest extends KeepCases {
    private static final String RESTORED =
        "THE RESULT is the tree of the latest session whose time is not above that: how many entries.";
    private static final String STATES =
        "IllegalStateException: the repository is not AT REST, or there is no such session.";
    private static final String FIRST = "a 1 1 1 one";
    private static final String SECOND = "a 1 1 1 ONE!; d 2 0 0 -; d/l 3 0 0 a";
    private static final String THIRD = "d 2 0 0 -";

    public static void main(String[] args) {
        run(RestoreTest.class);
    }

    private void isRestored(int time, int entries, String tree) {
        threeSessions();
        tape("t");
        String source = tree(SOURCE);
        same("restore(" + time + ")", x.restore(time), entries);
        same("entries of the result", x.about(5), entries);
        same("the result", tree(RESULT), tree);
        same("the source", tree(SOURCE), source);
        same("the mirror", tree(MIRROR), THIRD);
        same("bytes on the tape", x.about(8), 1);
        same("sessions", x.about(1), 3);
    }

    private void isRefused(int time) {
        threeSessions();
        x.restore(20);
        refused(STATE, "restore(" + time + ")", () -> x.restore(time));
    }

    @Case(RESTORED)
    void timeOfTheOldest() {
        isRestored(10, 1, FIRST);
    }

    @Case(RESTORED)
    void timeJustAboveTheOldest() {
        isRestored(11, 1, FIRST);
    }

    @Case(RESTORED)
    void timeJustBelowTheSecond() {
        isRestored(19, 1, FIRST);
    }

    @Case(RESTORED)
    void timeOfTheSecond() {
        isRestored(20, 3, SECOND);
    }

    @Case(RESTORED)
    void timeJustBelowTheLatest() {
        isRestored(29, 3, SECOND);
    }

    @Case(RESTORED)
    void timeOfTheLatest() {
        isRestored(30, 1, THIRD);
    }

    @Case(RESTORED)
    void highestTime() {
        isRestored(HIGHEST, 1, THIRD);
    }

    @Case(RESTORED)
    void laterRestoreTakesTheResultsPlace() {
        threeSessions();
        x.restore(20);
        x.restore(10);
        same("the result", tree(RESULT), FIRST);
        same("none behind it", x.entry(RESULT, 1, 0), NONE);
    }

    @Case(RESTORED)
    void emptyTreeHas0Entries() {
        keep(0);
        file("f");
        keep(1);
        x.restore(1);
        same("restore(0)", x.restore(0), 0);
        same("entries of the result", x.about(5), 0);
        same("the first", x.entry(RESULT, 0, 0), NONE);
    }

    @Case(RESTORED)
    void fullTreeHas60Entries() {
        sixty("d");
        keep(1);
        removeAt("d");
        keep(2);
        same("restore(1)", x.restore(1), 60);
        same("the last", path(RESULT, 59), "d/9");
        same("none behind it", x.entry(RESULT, 60, 0), NONE);
    }

    @Case(RESTORED)
    void oldestOf40() {
        file("f");
        keep(0);
        x.remove();
        for (int time = 1; time < 40; time++) {
            keep(time);
        }
        same("restore(0)", x.restore(0), 1);
        same("restore(1)", x.restore(1), 0);
        same("restore(39)", x.restore(39), 0);
    }

    @Case(RESTORED)
    void resultStaysBehindAnotherSession() {
        threeSessions();
        x.restore(20);
        file("new");
        keep(40);
        same("the result", tree(RESULT), SECOND);
    }

    @Case(RESTORED)
    void resultStaysBehindAPruneOfItsSession() {
        threeSessions();
        x.restore(20);
        x.prune(30);
        same("the result", tree(RESULT), SECOND);
    }

    @Case(STATES)
    void timeJustBelowTheOldestIsRefused() {
        isRefused(9);
    }

    @Case(STATES)
    void timeBelow0IsRefused() {
        isRefused(-1);
    }

    @Case(STATES)
    void lowestTimeIsRefused() {
        isRefused(LOWEST);
    }

    @Case(STATES)
    void timeBelow0IsRefusedBelowASessionOf0() {
        keep(0);
        refused(STATE, "restore(-1)", () -> x.restore(-1));
        same("restore(0)", x.restore(0), 0);
    }

    @Case(STATES)
    void withoutASessionIsRefused() {
        file("f");
        refused(STATE, "restore(highest)", () -> x.restore(HIGHEST));
        refused(STATE, "restore(0)", () -> x.restore(0));
    }

    @Case(STATES)
    void forgottenSessionIsRefused() {
        threeSessions();
        x.restore(10);
        x.prune(20);
        refused(STATE, "restore(19)", () -> x.restore(19));
        same("restore(20)", x.restore(20), 3);
    }

    @Case(STATES)
    void underWayIsRefused() {
        threeChanges();
        x.step(3);
        refused(STATE, "restore(1)", () -> x.restore(1));
    }

    @Case(STATES)
    void underWayWithNothingDoneIsRefused() {
        threeChanges();
        refused(STATE, "restore(1)", () -> x.restore(1));
    }

    @Case(STATES)
    void brokenIsRefused() {
        brokenBehind(3);
        refused(STATE, "restore(1)", () -> x.restore(1));
        x.regress(200);
        same("restore(1), at rest", x.restore(1), 2);
    }

    @Case(STATES)
    void sessionThatWasTakenBackIsNone() {
        brokenBehind(8);
        x.regress(200);
        x.restore(2);
        same("the result", tree(RESULT), "a 1 0 0 one; b 1 0 0 two");
    }
}
